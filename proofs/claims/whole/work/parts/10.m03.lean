-- X8_isAcross
def rm_X8_isAcross : Room := { frames := 1, cells := 0, slots := 0, locals := 22 }
abbrev ws_X8_isAcross : List Cond := .code yX8_isAcross cX8_isAcross 3 (some .boolean) :: wsL_law
theorem cw_RX8_65 {R : Room} {s : State} {args : Array Value} (hts : ∀ w ∈ wsL_law, w.before args s = true) (hR : rm_X8_side.frames + 1 ≤ R.frames ∧ 8 + (3 + 11) + rm_X8_side.locals ≤ R.locals) : CallW R s args RX8 RX8 65 yX8_side cX8_side 3 (some .long) ws_X8_side rm_X8_side rm_X8_side.cells rm_X8_side.slots 2 := cwV 2 hts (gdV w_24_5 w_24_6 w_24_7 w_2_7 w_24_8) rfl rfl rfl (by decide +kernel) hR
theorem cw_RX8_69 {R : Room} {s : State} {args : Array Value} (hts : ∀ w ∈ wsL_law, w.before args s = true) (hR : rm_J13_signum_95d88.frames + 1 ≤ R.frames ∧ 8 + (2 + 11) + rm_J13_signum_95d88.locals ≤ R.locals) : CallB R s args RX8 69 yJ13_signum_95d88 cJ13_signum_95d88 2 (some .int) ws_J13_signum_95d88 rm_J13_signum_95d88 rm_J13_signum_95d88.cells rm_J13_signum_95d88.slots 1 ∧ (Cond.static yJ13_signum_95d88).before args s = true := va_cwS 1 hts (gdS w_24_9 w_24_10 w_24_11 w_24_12) rfl rfl rfl (by decide +kernel) hR
def wp_X8_isAcross (st : St) (a1 : Int32) (a2 : Int32) (post : Int32 → Prop) : Prop := wp_X8_side st a1 a2 (fun r1 => wp_J13_signum_95d88 r1 (fun r3 => wp_X8_side st a1 (a2 + 1) (fun r5 => wp_J13_signum_95d88 r5 (fun r7 => ((0 < (r3 * r7)) → (post 0)) ∧ ((¬ 0 < (r3 * r7)) → (post 1))))))
set_option maxHeartbeats 4000000 in
set_option maxRecDepth 100000 in
theorem c_X8_isAcross (l : Launch) (D : va_G) (cy : Nat → ClassId) (tz : Nat → Nat) (ad : Nat → Nat) (st : St) (a1 : Int32) (a2 : Int32) (post : Int32 → Prop) (h : wp_X8_isAcross st a1 a2 post) : CtI l D cy tz yX8_isAcross ws_X8_isAcross rm_X8_isAcross [.ref (ad 17), .int a1, .int a2] (wX cy ad st) (fun _ : Unit => wX cy ad st) (fun r _ => post r) := by
  refine CtI.of (own := RX8) (nm := "isAcross") (lv := [(0, .ref (ad 17)), (1, .int a1), (2, .int a2)]) (plainFor_of_name (by decide)) rfl rfl (Nat.le_of_ble_eq_true rfl) rfl ?_
  intro p e s m args below meth c A Q ls B hP hD hS hl hret
  obtain ⟨hx, hb, hml, hown, hts, hK, hZ, hA, hnm⟩ := B
  have SF : CallFix p m c cX8_isAcross 3 s args wsL_law RX8 := ⟨hx, hb, hml, hown, hts⟩
  unfold wp_X8_isAcross at h
  refine lv_aload_n hx hb dX8_isAcross_0 rfl (lv_at hl 0 rfl) ?_
  refine lv_iload_n hx hb dX8_isAcross_1 rfl (lv_at hl 1 rfl) ?_
  refine lv_iload_n hx hb dX8_isAcross_2 rfl (lv_at hl 2 rfl) ?_
  refine callVLr (rest := []) SF (c_X8_side l D cy tz ad st a1 a2 _ h) (cw_RX8_65 hts ⟨Nat.le_of_ble_eq_true rfl, Nat.le_of_ble_eq_true rfl⟩) rfl rfl (va_recv hK hP (ci := 8) (q0 := 17) rfl rfl) hK hZ hA hP hD hS rfl hl.1 rfl (Nat.le_of_ble_eq_true rfl) dX8_isAcross_3 ⟨Nat.zero_le _, Nat.zero_le _⟩ (fun r1 H locs h hP hD hS => ?_)
  refine callSIr (rest := []) SF (c_J13_signum_95d88 l D cy tz _ r1 _ h) (cw_RX8_69 hts ⟨Nat.le_of_ble_eq_true rfl, Nat.le_of_ble_eq_true rfl⟩) rfl rfl hK hZ hA hP hD hS rfl hl.1 rfl (Nat.le_of_ble_eq_true rfl) dX8_isAcross_6 ⟨Nat.zero_le _, Nat.zero_le _⟩ (fun r3 H locs h hP hD hS => ?_)
  refine lv_aload_n hx hb dX8_isAcross_9 rfl (lv_at hl 0 rfl) ?_
  refine lv_iload_n hx hb dX8_isAcross_10 rfl (lv_at hl 1 rfl) ?_
  refine lv_iload_n hx hb dX8_isAcross_11 rfl (lv_at hl 2 rfl) ?_
  refine lv_iconst (v := 1) hx hb dX8_isAcross_12 (by decide) ?_
  refine lv_iadd hx hb dX8_isAcross_13 ?_
  refine callVLr (rest := [.int r3]) SF (c_X8_side l D cy tz ad st a1 (a2 + 1) _ h) (cw_RX8_65 hts ⟨Nat.le_of_ble_eq_true rfl, Nat.le_of_ble_eq_true rfl⟩) rfl rfl (va_recv hK hP (ci := 8) (q0 := 17) rfl rfl) hK hZ hA hP hD hS rfl hl.1 rfl (Nat.le_of_ble_eq_true rfl) dX8_isAcross_14 ⟨Nat.zero_le _, Nat.zero_le _⟩ (fun r5 H locs h hP hD hS => ?_)
  refine callSIr (rest := [.int r3]) SF (c_J13_signum_95d88 l D cy tz _ r5 _ h) (cw_RX8_69 hts ⟨Nat.le_of_ble_eq_true rfl, Nat.le_of_ble_eq_true rfl⟩) rfl rfl hK hZ hA hP hD hS rfl hl.1 rfl (Nat.le_of_ble_eq_true rfl) dX8_isAcross_17 ⟨Nat.zero_le _, Nat.zero_le _⟩ (fun r7 H locs h hP hD hS => ?_)
  refine lv_imul hx hb dX8_isAcross_20 ?_
  refine lv_if_gt (tgt := 28) hx hb dX8_isAcross_21 (by decide) (fun c9 => ?_) (fun c9 => ?_)
  · have h := h.1 c9
    refine lv_iconst (v := 0) hx hb dX8_isAcross_28 (by decide) ?_
    exact hret _ () _ _ _ _ rfl h hP hD hS dX8_isAcross_29
  · have h := h.2 c9
    refine lv_iconst (v := 1) hx hb dX8_isAcross_24 (by decide) ?_
    refine lv_goto (tgt := 29) hx hb dX8_isAcross_25 (by decide) ?_
    exact hret _ () _ _ _ _ rfl h hP hD hS dX8_isAcross_29
-- X8_linesMeet
def rm_X8_linesMeet : Room := { frames := 2, cells := 0, slots := 0, locals := 44 }
abbrev ws_X8_linesMeet : List Cond := .code yX8_linesMeet cX8_linesMeet 3 (some .boolean) :: wsL_law
theorem cw_RX8_49 {R : Room} {s : State} {args : Array Value} (hts : ∀ w ∈ wsL_law, w.before args s = true) (hR : rm_X8_spansMeet.frames + 1 ≤ R.frames ∧ 8 + (3 + 11) + rm_X8_spansMeet.locals ≤ R.locals) : CallB R s args RX8 49 yX8_spansMeet cX8_spansMeet 3 (some .boolean) ws_X8_spansMeet rm_X8_spansMeet rm_X8_spansMeet.cells rm_X8_spansMeet.slots 3 ∧ (Cond.static yX8_spansMeet).before args s = true := va_cwS 3 hts (gdS w_23_18 w_23_19 w_2_7 w_23_20) rfl rfl rfl (by decide +kernel) hR
theorem cw_RX8_53 {R : Room} {s : State} {args : Array Value} (hts : ∀ w ∈ wsL_law, w.before args s = true) (hR : rm_X8_isAcross.frames + 1 ≤ R.frames ∧ 8 + (3 + 11) + rm_X8_isAcross.locals ≤ R.locals) : CallW R s args RX8 RX8 53 yX8_isAcross cX8_isAcross 3 (some .boolean) ws_X8_isAcross rm_X8_isAcross rm_X8_isAcross.cells rm_X8_isAcross.slots 2 := cwV 2 hts (gdV w_24_1 w_24_2 w_24_3 w_2_7 w_24_4) rfl rfl rfl (by decide +kernel) hR
def wp_X8_linesMeet (st : St) (a1 : Int32) (a2 : Int32) (post : Int32 → Prop) : Prop := wp_X8_spansMeet_c18 st a1 a2 (fun r1 => ((r1 = 0) → (post 0)) ∧ ((¬ r1 = 0) → (wp_X8_spansMeet_c19 st a1 a2 (fun r4 => ((r4 = 0) → (post 0)) ∧ ((¬ r4 = 0) → (wp_X8_isAcross st a1 a2 (fun r7 => ((r7 = 0) → (post 0)) ∧ ((¬ r7 = 0) → (wp_X8_isAcross st a2 a1 (fun r10 => ((r10 = 0) → (post 0)) ∧ ((¬ r10 = 0) → (post 1))))))))))))
set_option maxHeartbeats 4000000 in
set_option maxRecDepth 100000 in
theorem c_X8_linesMeet (l : Launch) (D : va_G) (cy : Nat → ClassId) (tz : Nat → Nat) (ad : Nat → Nat) (st : St) (a1 : Int32) (a2 : Int32) (post : Int32 → Prop) (h : wp_X8_linesMeet st a1 a2 post) : CtI l D cy tz yX8_linesMeet ws_X8_linesMeet rm_X8_linesMeet [.ref (ad 17), .int a1, .int a2] (wX cy ad st) (fun _ : Unit => wX cy ad st) (fun r _ => post r) := by
  refine CtI.of (own := RX8) (nm := "linesMeet") (lv := [(0, .ref (ad 17)), (1, .int a1), (2, .int a2)]) (plainFor_of_name (by decide)) rfl rfl (Nat.le_of_ble_eq_true rfl) rfl ?_
  intro p e s m args below meth c A Q ls B hP hD hS hl hret
  obtain ⟨hx, hb, hml, hown, hts, hK, hZ, hA, hnm⟩ := B
  have SF : CallFix p m c cX8_linesMeet 3 s args wsL_law RX8 := ⟨hx, hb, hml, hown, hts⟩
  unfold wp_X8_linesMeet at h
  refine lv_aload_n hx hb dX8_linesMeet_0 rfl (lv_at hl 0 rfl) ?_
  refine va_get (D := D) (ci := 8) (v := .ref (ad 18)) (C := RX8) (T := TX8) (N := 2) hx hb hts inlX8 hown hK hP 17 rfl rfl 0 (by decide) (hts _ w_4_17) (fun _ h9 => h9) rfl dX8_linesMeet_1 ?_
  refine lv_iload_n hx hb dX8_linesMeet_4 rfl (lv_at hl 1 rfl) ?_
  refine lv_iload_n hx hb dX8_linesMeet_5 rfl (lv_at hl 2 rfl) ?_
  refine callSIr (rest := []) SF (c_X8_spansMeet_c18 l D cy tz ad st a1 a2 _ h) (cw_RX8_49 hts ⟨Nat.le_of_ble_eq_true rfl, Nat.le_of_ble_eq_true rfl⟩) rfl rfl hK hZ hA hP hD hS rfl hl.1 rfl (Nat.le_of_ble_eq_true rfl) dX8_linesMeet_6 ⟨Nat.zero_le _, Nat.zero_le _⟩ (fun r1 H locs h hP hD hS => ?_)
  refine lv_if_eq (tgt := 46) hx hb dX8_linesMeet_9 (by decide) (fun c3 => ?_) (fun c3 => ?_)
  · have h := h.1 c3
    refine lv_iconst (v := 0) hx hb dX8_linesMeet_46 (by decide) ?_
    exact hret _ () _ _ _ _ rfl h hP hD hS dX8_linesMeet_47
  · have h := h.2 c3
    refine lv_aload_n hx hb dX8_linesMeet_12 rfl (lv_at hl 0 rfl) ?_
    refine va_get (D := D) (ci := 8) (v := .ref (ad 19)) (C := RX8) (T := TX8) (N := 2) hx hb hts inlX8 hown hK hP 17 rfl rfl 1 (by decide) (hts _ w_4_18) (fun _ h9 => h9) rfl dX8_linesMeet_13 ?_
    refine lv_iload_n hx hb dX8_linesMeet_16 rfl (lv_at hl 1 rfl) ?_
    refine lv_iload_n hx hb dX8_linesMeet_17 rfl (lv_at hl 2 rfl) ?_
    refine callSIr (rest := []) SF (c_X8_spansMeet_c19 l D cy tz ad st a1 a2 _ h) (cw_RX8_49 hts ⟨Nat.le_of_ble_eq_true rfl, Nat.le_of_ble_eq_true rfl⟩) rfl rfl hK hZ hA hP hD hS rfl hl.1 rfl (Nat.le_of_ble_eq_true rfl) dX8_linesMeet_18 ⟨Nat.zero_le _, Nat.zero_le _⟩ (fun r4 H locs h hP hD hS => ?_)
    refine lv_if_eq (tgt := 46) hx hb dX8_linesMeet_21 (by decide) (fun c6 => ?_) (fun c6 => ?_)
    · have h := h.1 c6
      refine lv_iconst (v := 0) hx hb dX8_linesMeet_46 (by decide) ?_
      exact hret _ () _ _ _ _ rfl h hP hD hS dX8_linesMeet_47
    · have h := h.2 c6
      refine lv_aload_n hx hb dX8_linesMeet_24 rfl (lv_at hl 0 rfl) ?_
      refine lv_iload_n hx hb dX8_linesMeet_25 rfl (lv_at hl 1 rfl) ?_
      refine lv_iload_n hx hb dX8_linesMeet_26 rfl (lv_at hl 2 rfl) ?_
      refine callVIr (rest := []) SF (c_X8_isAcross l D cy tz ad st a1 a2 _ h) (cw_RX8_53 hts ⟨Nat.le_of_ble_eq_true rfl, Nat.le_of_ble_eq_true rfl⟩) rfl rfl (va_recv hK hP (ci := 8) (q0 := 17) rfl rfl) hK hZ hA hP hD hS rfl hl.1 rfl (Nat.le_of_ble_eq_true rfl) dX8_linesMeet_27 ⟨Nat.zero_le _, Nat.zero_le _⟩ (fun r7 H locs h hP hD hS => ?_)
      refine lv_if_eq (tgt := 46) hx hb dX8_linesMeet_30 (by decide) (fun c9 => ?_) (fun c9 => ?_)
      · have h := h.1 c9
        refine lv_iconst (v := 0) hx hb dX8_linesMeet_46 (by decide) ?_
        exact hret _ () _ _ _ _ rfl h hP hD hS dX8_linesMeet_47
      · have h := h.2 c9
        refine lv_aload_n hx hb dX8_linesMeet_33 rfl (lv_at hl 0 rfl) ?_
        refine lv_iload_n hx hb dX8_linesMeet_34 rfl (lv_at hl 2 rfl) ?_
        refine lv_iload_n hx hb dX8_linesMeet_35 rfl (lv_at hl 1 rfl) ?_
        refine callVIr (rest := []) SF (c_X8_isAcross l D cy tz ad st a2 a1 _ h) (cw_RX8_53 hts ⟨Nat.le_of_ble_eq_true rfl, Nat.le_of_ble_eq_true rfl⟩) rfl rfl (va_recv hK hP (ci := 8) (q0 := 17) rfl rfl) hK hZ hA hP hD hS rfl hl.1 rfl (Nat.le_of_ble_eq_true rfl) dX8_linesMeet_36 ⟨Nat.zero_le _, Nat.zero_le _⟩ (fun r10 H locs h hP hD hS => ?_)
        refine lv_if_eq (tgt := 46) hx hb dX8_linesMeet_39 (by decide) (fun c12 => ?_) (fun c12 => ?_)
        · have h := h.1 c12
          refine lv_iconst (v := 0) hx hb dX8_linesMeet_46 (by decide) ?_
          exact hret _ () _ _ _ _ rfl h hP hD hS dX8_linesMeet_47
        · have h := h.2 c12
          refine lv_iconst (v := 1) hx hb dX8_linesMeet_42 (by decide) ?_
          refine lv_goto (tgt := 47) hx hb dX8_linesMeet_43 (by decide) ?_
          exact hret _ () _ _ _ _ rfl h hP hD hS dX8_linesMeet_47
-- X8_crossesItself
def rm_X8_crossesItself : Room := { frames := 3, cells := 0, slots := 0, locals := 66 }
abbrev ws_X8_crossesItself : List Cond := .code yX8_crossesItself cX8_crossesItself 3 (some .boolean) :: wsL_law
theorem cw_RX8_45 {R : Room} {s : State} {args : Array Value} (hts : ∀ w ∈ wsL_law, w.before args s = true) (hR : rm_X8_linesMeet.frames + 1 ≤ R.frames ∧ 8 + (3 + 11) + rm_X8_linesMeet.locals ≤ R.locals) : CallW R s args RX8 RX8 45 yX8_linesMeet cX8_linesMeet 3 (some .boolean) ws_X8_linesMeet rm_X8_linesMeet rm_X8_linesMeet.cells rm_X8_linesMeet.slots 2 := cwV 2 hts (gdV w_23_14 w_23_15 w_23_16 w_2_7 w_23_17) rfl rfl rfl (by decide +kernel) hR
def wp_X8_crossesItself_L12 (post : Int32 → Prop) (K : Prop) (st : St) (v1 : Int32) : Nat → Int32 → Prop
  | 0, _ => False
  | n12 + 1, v6 => ((20 ≤ v6) → (K)) ∧ ((¬ 20 ≤ v6) → (wp_X8_linesMeet st v1 v6 (fun r9 => ((r9 = 0) → (∀ x12 : Int32, x12 = v6 + 1 → (wp_X8_crossesItself_L12 post K st v1 n12 x12))) ∧ ((¬ r9 = 0) → (post 1)))))
def wp_X8_crossesItself_L2 (post : Int32 → Prop) (K : Prop) (st : St) : Nat → Int32 → Prop
  | 0, _ => False
  | n2 + 1, v1 => ((20 ≤ v1) → (K)) ∧ ((¬ 20 ≤ v1) → (∀ x4 : Int32, x4 = (v1 + 2) → (∃ m12 : Nat, wp_X8_crossesItself_L12 post (∀ x15 : Int32, x15 = v1 + 1 → (wp_X8_crossesItself_L2 post K st n2 x15)) st v1 m12 x4)))
def wp_X8_crossesItself (st : St) (post : Int32 → Prop) : Prop := ∃ m2 : Nat, wp_X8_crossesItself_L2 post (post 0) st m2 0
set_option maxHeartbeats 4000000 in
set_option maxRecDepth 100000 in
theorem c_X8_crossesItself (l : Launch) (D : va_G) (cy : Nat → ClassId) (tz : Nat → Nat) (ad : Nat → Nat) (st : St) (post : Int32 → Prop) (h : wp_X8_crossesItself st post) : CtI l D cy tz yX8_crossesItself ws_X8_crossesItself rm_X8_crossesItself [.ref (ad 17)] (wX cy ad st) (fun _ : Unit => wX cy ad st) (fun r _ => post r) := by
  refine CtI.of (own := RX8) (nm := "crossesItself") (lv := [(0, .ref (ad 17))]) (plainFor_of_name (by decide)) rfl rfl (Nat.le_of_ble_eq_true rfl) rfl ?_
  intro p e s m args below meth c A Q ls B hP hD hS hl hret
  obtain ⟨hx, hb, hml, hown, hts, hK, hZ, hA, hnm⟩ := B
  have SF : CallFix p m c cX8_crossesItself 3 s args wsL_law RX8 := ⟨hx, hb, hml, hown, hts⟩
  unfold wp_X8_crossesItself at h
  refine lv_iconst (v := 0) hx hb dX8_crossesItself_0 (by decide) ?_
  refine lv_istore_n (lv' := [(1, .int 0), (0, .ref (ad 17))]) hx hb dX8_crossesItself_1 rfl hl (by decide) rfl (fun ls hl => ?_)
  have loop2 : ∀ (K : Prop), (∀ (H : Heap) (locs : List Loc) (ls : Array Slot), K → va_P D vwCl (wX cy ad st) H → va_D A (wX cy ad st) → va_S A s.heap H locs → lv_has ls 3 [] → W p l e rm_X8_crossesItself s m args below meth c H locs 0 0 Q (F0 m 41 ls [])) → ∀ (n : Nat) (v1 : Int32) (H : Heap) (locs : List Loc) (ls : Array Slot), wp_X8_crossesItself_L2 post K st n v1 → va_P D vwCl (wX cy ad st) H → va_D A (wX cy ad st) → va_S A s.heap H locs → lv_has ls 3 [(0, .ref (ad 17)), (1, .int v1)] → W p l e rm_X8_crossesItself s m args below meth c H locs 0 0 Q (F0 m 2 ls []) := by
    intro K hE2 n
    induction n with
    | zero => intro v1 H locs ls h; exact h.elim
    | succ n ih2 =>
      intro v1 H locs ls h hP hD hS hl
      rw [wp_X8_crossesItself_L2] at h
      refine lv_iload_n hx hb dX8_crossesItself_2 rfl (lv_at hl 1 rfl) ?_
      refine lv_bipush (v := 20) hx hb dX8_crossesItself_3 (by decide) ?_
      refine lv_icmp_ge (tgt := 41) hx hb dX8_crossesItself_5 (by decide) (fun c3 => ?_) (fun c3 => ?_)
      · have h := h.1 c3
        exact hE2 _ _ _ h hP hD hS (lv_sub hl [] rfl)
      · have h := h.2 c3
        refine lv_iload_n hx hb dX8_crossesItself_8 rfl (lv_at hl 1 rfl) ?_
        refine lv_iconst (v := 2) hx hb dX8_crossesItself_9 (by decide) ?_
        refine lv_iadd hx hb dX8_crossesItself_10 ?_
        refine lv_topi (fun x4 e5 => ?_)
        have h := h x4 e5
        refine lv_istore_n (lv' := [(2, .int x4), (0, .ref (ad 17)), (1, .int v1)]) hx hb dX8_crossesItself_11 rfl hl (by decide) rfl (fun ls hl => ?_)
        have loop12 : ∀ (K : Prop), (∀ (H : Heap) (locs : List Loc) (ls : Array Slot), K → va_P D vwCl (wX cy ad st) H → va_D A (wX cy ad st) → va_S A s.heap H locs → lv_has ls 3 [(0, .ref (ad 17)), (1, .int v1)] → W p l e rm_X8_crossesItself s m args below meth c H locs 0 0 Q (F0 m 35 ls [])) → ∀ (n : Nat) (v6 : Int32) (H : Heap) (locs : List Loc) (ls : Array Slot), wp_X8_crossesItself_L12 post K st v1 n v6 → va_P D vwCl (wX cy ad st) H → va_D A (wX cy ad st) → va_S A s.heap H locs → lv_has ls 3 [(0, .ref (ad 17)), (1, .int v1), (2, .int v6)] → W p l e rm_X8_crossesItself s m args below meth c H locs 0 0 Q (F0 m 12 ls []) := by
          intro K hE12 n
          induction n with
          | zero => intro v6 H locs ls h; exact h.elim
          | succ n ih12 =>
            intro v6 H locs ls h hP hD hS hl
            rw [wp_X8_crossesItself_L12] at h
            refine lv_iload_n hx hb dX8_crossesItself_12 rfl (lv_at hl 2 rfl) ?_
            refine lv_bipush (v := 20) hx hb dX8_crossesItself_13 (by decide) ?_
            refine lv_icmp_ge (tgt := 35) hx hb dX8_crossesItself_15 (by decide) (fun c8 => ?_) (fun c8 => ?_)
            · have h := h.1 c8
              exact hE12 _ _ _ h hP hD hS (lv_sub hl [0, 1] rfl)
            · have h := h.2 c8
              refine lv_aload_n hx hb dX8_crossesItself_18 rfl (lv_at hl 0 rfl) ?_
              refine lv_iload_n hx hb dX8_crossesItself_19 rfl (lv_at hl 1 rfl) ?_
              refine lv_iload_n hx hb dX8_crossesItself_20 rfl (lv_at hl 2 rfl) ?_
              refine callVIr (rest := []) SF (c_X8_linesMeet l D cy tz ad st v1 v6 _ h) (cw_RX8_45 hts ⟨Nat.le_of_ble_eq_true rfl, Nat.le_of_ble_eq_true rfl⟩) rfl rfl (va_recv hK hP (ci := 8) (q0 := 17) rfl rfl) hK hZ hA hP hD hS rfl hl.1 rfl (Nat.le_of_ble_eq_true rfl) dX8_crossesItself_21 ⟨Nat.zero_le _, Nat.zero_le _⟩ (fun r9 H locs h hP hD hS => ?_)
              refine lv_if_eq (tgt := 29) hx hb dX8_crossesItself_24 (by decide) (fun c11 => ?_) (fun c11 => ?_)
              · have h := h.1 c11
                obtain ⟨x12, e13⟩ : ∃ z : Int32, z = v6 + 1 := ⟨_, rfl⟩
                have h := h x12 e13
                refine lv_iinc (v := x12) (lv' := [(2, .int x12), (0, .ref (ad 17)), (1, .int v1)]) hx hb dX8_crossesItself_29 hl (k := 2) rfl (by rw [e13]; rfl) (by decide) rfl (fun ls hl => ?_)
                refine lv_goto (tgt := 12) hx hb dX8_crossesItself_32 (by decide) ?_
                exact ih12 _ _ _ _ h hP hD hS (lv_sub hl [1, 2, 0] rfl)
              · have h := h.2 c11
                refine lv_iconst (v := 1) hx hb dX8_crossesItself_27 (by decide) ?_
                exact hret _ () _ _ _ _ rfl h hP hD hS dX8_crossesItself_28
        obtain ⟨n, h⟩ := h
        refine loop12 _ ?_ n _ _ _ _ h hP hD hS (lv_sub hl [1, 2, 0] rfl)
        intro H locs ls h hP hD hS hl
        obtain ⟨x15, e16⟩ : ∃ z : Int32, z = v1 + 1 := ⟨_, rfl⟩
        have h := h x15 e16
        refine lv_iinc (v := x15) (lv' := [(1, .int x15), (0, .ref (ad 17))]) hx hb dX8_crossesItself_35 hl (k := 1) rfl (by rw [e16]; rfl) (by decide) rfl (fun ls hl => ?_)
        refine lv_goto (tgt := 2) hx hb dX8_crossesItself_38 (by decide) ?_
        exact ih2 _ _ _ _ h hP hD hS (lv_sub hl [1, 0] rfl)
  obtain ⟨n, h⟩ := h
  refine loop2 _ ?_ n _ _ _ _ h hP hD hS (lv_sub hl [1, 0] rfl)
  intro H locs ls h hP hD hS hl
  refine lv_iconst (v := 0) hx hb dX8_crossesItself_41 (by decide) ?_
  exact hret _ () _ _ _ _ rfl h hP hD hS dX8_crossesItself_42
-- X10_set
def rm_X10_set : Room := { frames := 2, cells := 0, slots := 0, locals := 43 }
abbrev ws_X10_set : List Cond := .code yX10_set cX10_set 4 (some .int) :: wsL_law
theorem cw_RX10_62 {R : Room} {s : State} {args : Array Value} (hts : ∀ w ∈ wsL_law, w.before args s = true) (hR : rm_X7_takes.frames + 1 ≤ R.frames ∧ 8 + (2 + 11) + rm_X7_takes.locals ≤ R.locals) : CallB R s args RX10 62 yX7_takes cX7_takes 2 (some .boolean) ws_X7_takes rm_X7_takes rm_X7_takes.cells rm_X7_takes.slots 2 ∧ (Cond.static yX7_takes).before args s = true := va_cwS 2 hts (gdS w_6_6 w_6_7 w_1_18 w_6_8) rfl rfl rfl (by decide +kernel) hR
def wp_X10_set (st : St) (a1 : Int32) (a2 : Int32) (post : Int32 → St → Prop) : Prop := wp_X7_takes a1 a2 (fun r1 => ((¬ r1 = 0) → (vp_in a1 5 ∧ (∀ x4 : Int32, x4 = (gA st 1 a1.toNatClampNeg) → (vp_in a1 5 ∧ (post x4 (sA st 1 (upd (gA st 1) a1.toNatClampNeg a2))))))) ∧ ((r1 = 0) → (post (-2) st)))
set_option maxHeartbeats 4000000 in
set_option maxRecDepth 100000 in
theorem c_X10_set (l : Launch) (D : va_G) (cy : Nat → ClassId) (tz : Nat → Nat) (ad : Nat → Nat) (st : St) (a1 : Int32) (a2 : Int32) (post : Int32 → St → Prop) (h : wp_X10_set st a1 a2 post) : CtI l D cy tz yX10_set ws_X10_set rm_X10_set [.ref (ad 0), .int a1, .int a2] (wX cy ad st) (wX cy ad) post := by
  refine CtI.of (own := RX10) (nm := "set") (lv := [(0, .ref (ad 0)), (1, .int a1), (2, .int a2)]) (plainFor_of_name (by decide)) rfl rfl (Nat.le_of_ble_eq_true rfl) rfl ?_
  intro p e s m args below meth c A Q ls B hP hD hS hl hret
  obtain ⟨hx, hb, hml, hown, hts, hK, hZ, hA, hnm⟩ := B
  have SF : CallFix p m c cX10_set 4 s args wsL_law RX10 := ⟨hx, hb, hml, hown, hts⟩
  unfold wp_X10_set at h
  refine lv_iload_n hx hb dX10_set_0 rfl (lv_at hl 1 rfl) ?_
  refine lv_iload_n hx hb dX10_set_1 rfl (lv_at hl 2 rfl) ?_
  refine callSIr (rest := []) SF (c_X7_takes l D cy tz _ a1 a2 _ h) (cw_RX10_62 hts ⟨Nat.le_of_ble_eq_true rfl, Nat.le_of_ble_eq_true rfl⟩) rfl rfl hK hZ hA hP hD hS rfl hl.1 rfl (Nat.le_of_ble_eq_true rfl) dX10_set_2 ⟨Nat.zero_le _, Nat.zero_le _⟩ (fun r1 H locs h hP hD hS => ?_)
  refine lv_if_ne (tgt := 11) hx hb dX10_set_5 (by decide) (fun c3 => ?_) (fun c3 => ?_)
  · have h := h.1 c3
    refine lv_aload_n hx hb dX10_set_11 rfl (lv_at hl 0 rfl) ?_
    refine va_get (D := D) (ci := 9) (v := .ref (ad 3)) (C := RX10) (T := TX10) (N := 8) hx hb hts inlX10 hown hK hP 0 rfl rfl 1 (by decide) (hts _ w_1_19) (fun _ h9 => h9) rfl dX10_set_12 ?_
    refine va_get (D := D) (ci := 7) (v := .ref (ad 4)) (C := RX7) (T := TX7) (N := 6) hx hb hts inlX7 hown hK hP 3 rfl rfl 0 (by decide) (hts _ w_6_5) (fun _ h9 => h9) rfl dX10_set_15 ?_
    refine lv_iload_n hx hb dX10_set_18 rfl (lv_at hl 1 rfl) ?_
    refine va_iald (f := gA st 1) (n := 5) hx hb hK hP 4 0 rfl rfl h.1 dX10_set_19 ?_
    have h := h.2
    refine lv_topi (fun x4 e5 => ?_)
    have h := h x4 e5
    refine lv_istore_n (lv' := [(3, .int x4), (0, .ref (ad 0)), (1, .int a1), (2, .int a2)]) hx hb dX10_set_20 rfl hl (by decide) rfl (fun ls hl => ?_)
    refine lv_aload_n hx hb dX10_set_21 rfl (lv_at hl 1 rfl) ?_
    refine va_get (D := D) (ci := 9) (v := .ref (ad 3)) (C := RX10) (T := TX10) (N := 8) hx hb hts inlX10 hown hK hP 0 rfl rfl 1 (by decide) (hts _ w_1_19) (fun _ h9 => h9) rfl dX10_set_22 ?_
    refine va_get (D := D) (ci := 7) (v := .ref (ad 4)) (C := RX7) (T := TX7) (N := 6) hx hb hts inlX7 hown hK hP 3 rfl rfl 0 (by decide) (hts _ w_6_5) (fun _ h9 => h9) rfl dX10_set_25 ?_
    refine lv_iload_n hx hb dX10_set_28 rfl (lv_at hl 2 rfl) ?_
    refine lv_iload_n hx hb dX10_set_29 rfl (lv_at hl 3 rfl) ?_
    refine va_iast (f := gA st 1) (n := 5) hx hb hK hP hD hS 4 0 rfl rfl h.1 dX10_set_30 (fun H locs hP hD hS => ?_)
    have h := h.2
    have hP : va_P D vwCl (wX cy ad (sA st 1 (upd (gA st 1) a1.toNatClampNeg a2))) H := hP
    have hD : va_D A (wX cy ad (sA st 1 (upd (gA st 1) a1.toNatClampNeg a2))) := hD
    refine lv_iload_n hx hb dX10_set_31 rfl (lv_at hl 0 rfl) ?_
    exact hret _ _ _ _ _ _ rfl h hP hD hS dX10_set_32
  · have h := h.2 c3
    refine lv_bipush (v := (-2)) hx hb dX10_set_8 (by decide) ?_
    exact hret _ _ _ _ _ _ rfl h hP hD hS dX10_set_10
-- X10_say
def rm_X10_say : Room := { frames := 1, cells := 0, slots := 0, locals := 22 }
abbrev ws_X10_say : List Cond := .code yX10_say cX10_say 2 (some .int) :: wsL_law
theorem cw_RX10_70 {R : Room} {s : State} {args : Array Value} (hts : ∀ w ∈ wsL_law, w.before args s = true) (hR : rm_X10_within.frames + 1 ≤ R.frames ∧ 8 + (3 + 11) + rm_X10_within.locals ≤ R.locals) : CallB R s args RX10 70 yX10_within cX10_within 3 (some .boolean) ws_X10_within rm_X10_within rm_X10_within.cells rm_X10_within.slots 3 ∧ (Cond.static yX10_within).before args s = true := va_cwS 3 hts (gdS w_7_6 w_6_11 w_1_2 w_6_12) rfl rfl rfl (by decide +kernel) hR
theorem cw_RX10_74 {R : Room} {s : State} {args : Array Value} (hts : ∀ w ∈ wsL_law, w.before args s = true) (hR : rm_X4_add.frames + 1 ≤ R.frames ∧ 8 + (2 + 11) + rm_X4_add.locals ≤ R.locals) : CallW R s args RX10 RX4 74 yX4_add cX4_add 2 (some .boolean) ws_X4_add rm_X4_add rm_X4_add.cells rm_X4_add.slots 1 := cwV 1 hts (gdV w_7_7 w_7_8 w_7_9 w_1_14 w_7_10) rfl rfl rfl (by decide +kernel) hR
def wp_X10_say (st : St) (a1 : Int32) (post : Int32 → St → Prop) : Prop := wp_X10_within a1 33 126 (fun r1 => ((¬ r1 = 0) → (wp_X4_add st a1 (fun r4 t5 => ((r4 = 0) → (post (-4) t5)) ∧ ((¬ r4 = 0) → (post (gI t5 0) t5))))) ∧ ((r1 = 0) → (post (-2) st)))
set_option maxHeartbeats 4000000 in
set_option maxRecDepth 100000 in
theorem c_X10_say (l : Launch) (D : va_G) (cy : Nat → ClassId) (tz : Nat → Nat) (ad : Nat → Nat) (st : St) (a1 : Int32) (post : Int32 → St → Prop) (h : wp_X10_say st a1 post) : CtI l D cy tz yX10_say ws_X10_say rm_X10_say [.ref (ad 0), .int a1] (wX cy ad st) (wX cy ad) post := by
  refine CtI.of (own := RX10) (nm := "say") (lv := [(0, .ref (ad 0)), (1, .int a1)]) (plainFor_of_name (by decide)) rfl rfl (Nat.le_of_ble_eq_true rfl) rfl ?_
  intro p e s m args below meth c A Q ls B hP hD hS hl hret
  obtain ⟨hx, hb, hml, hown, hts, hK, hZ, hA, hnm⟩ := B
  have SF : CallFix p m c cX10_say 2 s args wsL_law RX10 := ⟨hx, hb, hml, hown, hts⟩
  unfold wp_X10_say at h
  refine lv_iload_n hx hb dX10_say_0 rfl (lv_at hl 1 rfl) ?_
  refine lv_bipush (v := 33) hx hb dX10_say_1 (by decide) ?_
  refine lv_bipush (v := 126) hx hb dX10_say_3 (by decide) ?_
  refine callSIr (rest := []) SF (c_X10_within l D cy tz _ a1 33 126 _ h) (cw_RX10_70 hts ⟨Nat.le_of_ble_eq_true rfl, Nat.le_of_ble_eq_true rfl⟩) rfl rfl hK hZ hA hP hD hS rfl hl.1 rfl (Nat.le_of_ble_eq_true rfl) dX10_say_5 ⟨Nat.zero_le _, Nat.zero_le _⟩ (fun r1 H locs h hP hD hS => ?_)
  refine lv_if_ne (tgt := 14) hx hb dX10_say_8 (by decide) (fun c3 => ?_) (fun c3 => ?_)
  · have h := h.1 c3
    refine lv_aload_n hx hb dX10_say_14 rfl (lv_at hl 0 rfl) ?_
    refine va_get (D := D) (ci := 9) (v := .ref (ad 1)) (C := RX10) (T := TX10) (N := 8) hx hb hts inlX10 hown hK hP 0 rfl rfl 0 (by decide) (hts _ w_1_15) (fun _ h9 => h9) rfl dX10_say_15 ?_
    refine lv_iload_n hx hb dX10_say_18 rfl (lv_at hl 1 rfl) ?_
    refine callVI (rest := []) SF (c_X4_add l D cy tz ad st a1 _ h) (cw_RX10_74 hts ⟨Nat.le_of_ble_eq_true rfl, Nat.le_of_ble_eq_true rfl⟩) rfl rfl (va_recv hK hP (ci := 4) (q0 := 1) rfl rfl) hK hZ hA hP hD hS rfl hl.1 rfl (Nat.le_of_ble_eq_true rfl) dX10_say_19 ⟨Nat.zero_le _, Nat.zero_le _⟩ (fun r4 t5 H locs h hP hD hS => ?_)
    refine lv_if_eq (tgt := 35) hx hb dX10_say_22 (by decide) (fun c6 => ?_) (fun c6 => ?_)
    · have h := h.1 c6
      refine lv_bipush (v := (-4)) hx hb dX10_say_35 (by decide) ?_
      exact hret _ _ _ _ _ _ rfl h hP hD hS dX10_say_37
    · have h := h.2 c6
      refine lv_aload_n hx hb dX10_say_25 rfl (lv_at hl 0 rfl) ?_
      refine va_get (D := D) (ci := 9) (v := .ref (ad 1)) (C := RX10) (T := TX10) (N := 8) hx hb hts inlX10 hown hK hP 0 rfl rfl 0 (by decide) (hts _ w_1_15) (fun _ h9 => h9) rfl dX10_say_26 ?_
      refine va_get (D := D) (ci := 4) (v := .int (gI t5 0)) (C := RX4) (T := TX4) (N := 2) hx hb hts inlX4 hown hK hP 1 rfl rfl 1 (by decide) (hts _ w_7_5) (fun _ h9 => h9) rfl dX10_say_29 ?_
      refine lv_goto (tgt := 37) hx hb dX10_say_32 (by decide) ?_
      exact hret _ _ _ _ _ _ rfl h hP hD hS dX10_say_37
  · have h := h.2 c3
    refine lv_bipush (v := (-2)) hx hb dX10_say_11 (by decide) ?_
    exact hret _ _ _ _ _ _ rfl h hP hD hS dX10_say_13
-- X10_wipe
def rm_X10_wipe : Room := { frames := 0, cells := 0, slots := 0, locals := 0 }
abbrev ws_X10_wipe : List Cond := .code yX10_wipe cX10_wipe 2 (some .int) :: wsL_law
def wp_X10_wipe (st : St) (post : Int32 → St → Prop) : Prop := ∀ x1 : Int32, x1 = gI st 0 → (post x1 (sI st 0 0))
set_option maxHeartbeats 4000000 in
set_option maxRecDepth 100000 in
theorem c_X10_wipe (l : Launch) (D : va_G) (cy : Nat → ClassId) (tz : Nat → Nat) (ad : Nat → Nat) (st : St) (post : Int32 → St → Prop) (h : wp_X10_wipe st post) : CtI l D cy tz yX10_wipe ws_X10_wipe rm_X10_wipe [.ref (ad 0)] (wX cy ad st) (wX cy ad) post := by
  refine CtI.of (own := RX10) (nm := "wipe") (lv := [(0, .ref (ad 0))]) (plainFor_of_name (by decide)) rfl rfl (Nat.le_of_ble_eq_true rfl) rfl ?_
  intro p e s m args below meth c A Q ls B hP hD hS hl hret
  obtain ⟨hx, hb, hml, hown, hts, hK, hZ, hA, hnm⟩ := B
  have SF : CallFix p m c cX10_wipe 2 s args wsL_law RX10 := ⟨hx, hb, hml, hown, hts⟩
  unfold wp_X10_wipe at h
  refine lv_aload_n hx hb dX10_wipe_0 rfl (lv_at hl 0 rfl) ?_
  refine va_get (D := D) (ci := 9) (v := .ref (ad 1)) (C := RX10) (T := TX10) (N := 8) hx hb hts inlX10 hown hK hP 0 rfl rfl 0 (by decide) (hts _ w_1_15) (fun _ h9 => h9) rfl dX10_wipe_1 ?_
  refine va_get (D := D) (ci := 4) (v := .int (gI st 0)) (C := RX4) (T := TX4) (N := 2) hx hb hts inlX4 hown hK hP 1 rfl rfl 1 (by decide) (hts _ w_7_5) (fun _ h9 => h9) rfl dX10_wipe_4 ?_
  refine lv_topi (fun x1 e2 => ?_)
  have h := h x1 e2
  refine lv_istore_n (lv' := [(1, .int x1), (0, .ref (ad 0))]) hx hb dX10_wipe_7 rfl hl (by decide) rfl (fun ls hl => ?_)
  refine lv_aload_n hx hb dX10_wipe_8 rfl (lv_at hl 1 rfl) ?_
  refine va_get (D := D) (ci := 9) (v := .ref (ad 1)) (C := RX10) (T := TX10) (N := 8) hx hb hts inlX10 hown hK hP 0 rfl rfl 0 (by decide) (hts _ w_1_15) (fun _ h9 => h9) rfl dX10_wipe_9 ?_
  refine lv_iconst (v := 0) hx hb dX10_wipe_12 (by decide) ?_
  refine va_put (D := D) (ci := 4) (v := .int 0) (ty := .int) (C := RX4) (T := TX4) (N := 2) hx hb hts inlX4 tyX4 tyX4_ok nmX4 hown hK hP hD hS 1 rfl rfl 1 (by decide) (hts _ w_7_5) (fun _ h9 => h9) rfl (by decide +kernel) rfl rfl (Nat.le_of_ble_eq_true rfl) dX10_wipe_13 (fun H locs hP hD hS => ?_)
  have hP : va_P D vwCl (wX cy ad (sI st 0 0)) H := hP
  have hD : va_D A (wX cy ad (sI st 0 0)) := hD
  refine lv_iload_n hx hb dX10_wipe_16 rfl (lv_at hl 0 rfl) ?_
  exact hret _ _ _ _ _ _ rfl h hP hD hS dX10_wipe_17
-- X10_fault
def rm_X10_fault : Room := { frames := 3, cells := 0, slots := 0, locals := 64 }
abbrev ws_X10_fault : List Cond := .code yX10_fault cX10_fault 1 (some .int) :: wsL_law
theorem cw_RX10_82 {R : Room} {s : State} {args : Array Value} (hts : ∀ w ∈ wsL_law, w.before args s = true) (hR : rm_X4_faultPlace.frames + 1 ≤ R.frames ∧ 8 + (3 + 11) + rm_X4_faultPlace.locals ≤ R.locals) : CallW R s args RX10 RX4 82 yX4_faultPlace cX4_faultPlace 3 (some .int) ws_X4_faultPlace rm_X4_faultPlace rm_X4_faultPlace.cells rm_X4_faultPlace.slots 0 := cwV 0 hts (gdV w_8_7 w_8_8 w_8_9 w_1_14 w_8_10) rfl rfl rfl (by decide +kernel) hR
def wp_X10_fault (st : St) (post : Int32 → Prop) : Prop := wp_X4_faultPlace st (fun r1 => post r1)
set_option maxHeartbeats 4000000 in
set_option maxRecDepth 100000 in
theorem c_X10_fault (l : Launch) (D : va_G) (cy : Nat → ClassId) (tz : Nat → Nat) (ad : Nat → Nat) (st : St) (post : Int32 → Prop) (h : wp_X10_fault st post) : CtI l D cy tz yX10_fault ws_X10_fault rm_X10_fault [.ref (ad 0)] (wX cy ad st) (fun _ : Unit => wX cy ad st) (fun r _ => post r) := by
  refine CtI.of (own := RX10) (nm := "fault") (lv := [(0, .ref (ad 0))]) (plainFor_of_name (by decide)) rfl rfl (Nat.le_of_ble_eq_true rfl) rfl ?_
  intro p e s m args below meth c A Q ls B hP hD hS hl hret
  obtain ⟨hx, hb, hml, hown, hts, hK, hZ, hA, hnm⟩ := B
  have SF : CallFix p m c cX10_fault 1 s args wsL_law RX10 := ⟨hx, hb, hml, hown, hts⟩
  unfold wp_X10_fault at h
  refine lv_aload_n hx hb dX10_fault_0 rfl (lv_at hl 0 rfl) ?_
  refine va_get (D := D) (ci := 9) (v := .ref (ad 1)) (C := RX10) (T := TX10) (N := 8) hx hb hts inlX10 hown hK hP 0 rfl rfl 0 (by decide) (hts _ w_1_15) (fun _ h9 => h9) rfl dX10_fault_1 ?_
  refine callVIr (rest := []) SF (c_X4_faultPlace l D cy tz ad st _ h) (cw_RX10_82 hts ⟨Nat.le_of_ble_eq_true rfl, Nat.le_of_ble_eq_true rfl⟩) rfl rfl (va_recv hK hP (ci := 4) (q0 := 1) rfl rfl) hK hZ hA hP hD hS rfl hl.1 rfl (Nat.le_of_ble_eq_true rfl) dX10_fault_4 ⟨Nat.zero_le _, Nat.zero_le _⟩ (fun r1 H locs h hP hD hS => ?_)
  exact hret _ () _ _ _ _ rfl h hP hD hS dX10_fault_7
-- X10_push
def rm_X10_push : Room := { frames := 3, cells := 0, slots := 0, locals := 68 }
abbrev ws_X10_push : List Cond := .code yX10_push cX10_push 1 (some .int) :: wsL_law
theorem cw_RX10_90 {R : Room} {s : State} {args : Array Value} (hts : ∀ w ∈ wsL_law, w.before args s = true) (hR : rm_X6_read.frames + 1 ≤ R.frames ∧ 8 + (6 + 11) + rm_X6_read.locals ≤ R.locals) : CallW R s args RX10 RX6 90 yX6_read cX6_read 6 none ws_X6_read rm_X6_read rm_X6_read.cells rm_X6_read.slots 1 := cwV 1 hts (gdV w_9_9 w_9_10 w_9_11 w_3_11 w_9_12) rfl rfl rfl (by decide +kernel) hR
def wp_X10_push (st : St) (post : Int32 → St → Prop) : Prop := wp_X4_faultPlace st (fun r1 => ((r1 = (-6)) → (wp_X6_read st (fun t5 => post (gI t5 3) (sI t5 0 0)))) ∧ ((¬ r1 = (-6)) → (post (-5) st)))
set_option maxHeartbeats 4000000 in
set_option maxRecDepth 100000 in
theorem c_X10_push (l : Launch) (D : va_G) (cy : Nat → ClassId) (tz : Nat → Nat) (ad : Nat → Nat) (st : St) (post : Int32 → St → Prop) (h : wp_X10_push st post) : CtI l D cy tz yX10_push ws_X10_push rm_X10_push [.ref (ad 0)] (wX cy ad st) (wX cy ad) post := by
  refine CtI.of (own := RX10) (nm := "push") (lv := [(0, .ref (ad 0))]) (plainFor_of_name (by decide)) rfl rfl (Nat.le_of_ble_eq_true rfl) rfl ?_
  intro p e s m args below meth c A Q ls B hP hD hS hl hret
  obtain ⟨hx, hb, hml, hown, hts, hK, hZ, hA, hnm⟩ := B
  have SF : CallFix p m c cX10_push 1 s args wsL_law RX10 := ⟨hx, hb, hml, hown, hts⟩
  unfold wp_X10_push at h
  refine lv_aload_n hx hb dX10_push_0 rfl (lv_at hl 0 rfl) ?_
  refine va_get (D := D) (ci := 9) (v := .ref (ad 1)) (C := RX10) (T := TX10) (N := 8) hx hb hts inlX10 hown hK hP 0 rfl rfl 0 (by decide) (hts _ w_1_15) (fun _ h9 => h9) rfl dX10_push_1 ?_
  refine callVIr (rest := []) SF (c_X4_faultPlace l D cy tz ad st _ h) (cw_RX10_82 hts ⟨Nat.le_of_ble_eq_true rfl, Nat.le_of_ble_eq_true rfl⟩) rfl rfl (va_recv hK hP (ci := 4) (q0 := 1) rfl rfl) hK hZ hA hP hD hS rfl hl.1 rfl (Nat.le_of_ble_eq_true rfl) dX10_push_4 ⟨Nat.zero_le _, Nat.zero_le _⟩ (fun r1 H locs h hP hD hS => ?_)
  refine lv_bipush (v := (-6)) hx hb dX10_push_7 (by decide) ?_
  refine lv_icmp_eq (tgt := 15) hx hb dX10_push_9 (by decide) (fun c3 => ?_) (fun c3 => ?_)
  · have h := h.1 c3
    refine lv_aload_n hx hb dX10_push_15 rfl (lv_at hl 0 rfl) ?_
    refine va_get (D := D) (ci := 9) (v := .ref (ad 3)) (C := RX10) (T := TX10) (N := 8) hx hb hts inlX10 hown hK hP 0 rfl rfl 1 (by decide) (hts _ w_1_19) (fun _ h9 => h9) rfl dX10_push_16 ?_
    refine va_get (D := D) (ci := 7) (v := .ref (ad 5)) (C := RX7) (T := TX7) (N := 6) hx hb hts inlX7 hown hK hP 3 rfl rfl 1 (by decide) (hts _ w_9_7) (fun _ h9 => h9) rfl dX10_push_19 ?_
    refine lv_aload_n hx hb dX10_push_22 rfl (lv_at hl 0 rfl) ?_
    refine va_get (D := D) (ci := 9) (v := .ref (ad 1)) (C := RX10) (T := TX10) (N := 8) hx hb hts inlX10 hown hK hP 0 rfl rfl 0 (by decide) (hts _ w_1_15) (fun _ h9 => h9) rfl dX10_push_23 ?_
    refine callVV (rest := []) SF (c_X6_read l D cy tz ad st _ h) (cw_RX10_90 hts ⟨Nat.le_of_ble_eq_true rfl, Nat.le_of_ble_eq_true rfl⟩) rfl rfl (va_recv hK hP (ci := 6) (q0 := 5) rfl rfl) hK hZ hA hP hD hS rfl hl.1 rfl (Nat.le_of_ble_eq_true rfl) dX10_push_26 ⟨Nat.zero_le _, Nat.zero_le _⟩ (fun t5 H locs h hP hD hS => ?_)
    refine lv_aload_n hx hb dX10_push_29 rfl (lv_at hl 0 rfl) ?_
    refine va_get (D := D) (ci := 9) (v := .ref (ad 1)) (C := RX10) (T := TX10) (N := 8) hx hb hts inlX10 hown hK hP 0 rfl rfl 0 (by decide) (hts _ w_1_15) (fun _ h9 => h9) rfl dX10_push_30 ?_
    refine lv_iconst (v := 0) hx hb dX10_push_33 (by decide) ?_
    refine va_put (D := D) (ci := 4) (v := .int 0) (ty := .int) (C := RX4) (T := TX4) (N := 2) hx hb hts inlX4 tyX4 tyX4_ok nmX4 hown hK hP hD hS 1 rfl rfl 1 (by decide) (hts _ w_7_5) (fun _ h9 => h9) rfl (by decide +kernel) rfl rfl (Nat.le_of_ble_eq_true rfl) dX10_push_34 (fun H locs hP hD hS => ?_)
    have hP : va_P D vwCl (wX cy ad (sI t5 0 0)) H := hP
    have hD : va_D A (wX cy ad (sI t5 0 0)) := hD
    refine lv_aload_n hx hb dX10_push_37 rfl (lv_at hl 0 rfl) ?_
    refine va_get (D := D) (ci := 9) (v := .ref (ad 3)) (C := RX10) (T := TX10) (N := 8) hx hb hts inlX10 hown hK hP 0 rfl rfl 1 (by decide) (hts _ w_1_19) (fun _ h9 => h9) rfl dX10_push_38 ?_
    refine va_get (D := D) (ci := 7) (v := .ref (ad 5)) (C := RX7) (T := TX7) (N := 6) hx hb hts inlX7 hown hK hP 3 rfl rfl 1 (by decide) (hts _ w_9_7) (fun _ h9 => h9) rfl dX10_push_41 ?_
    refine va_get (D := D) (ci := 6) (v := .int (gI t5 3)) (C := RX6) (T := TX6) (N := 4) hx hb hts inlX6 hown hK hP 5 rfl rfl 3 (by decide) (hts _ w_9_8) (fun _ h9 => h9) rfl dX10_push_44 ?_
    exact hret _ _ _ _ _ _ rfl h hP hD hS dX10_push_47
  · have h := h.2 c3
    refine lv_bipush (v := (-5)) hx hb dX10_push_12 (by decide) ?_
    exact hret _ _ _ _ _ _ rfl h hP hD hS dX10_push_14
-- X10_isTick
def rm_X10_isTick : Room := { frames := 1, cells := 0, slots := 0, locals := 22 }
abbrev ws_X10_isTick : List Cond := .code yX10_isTick cX10_isTick 1 (some .boolean) :: wsL_law
def wp_X10_isTick (a1 : Int32) (post : Int32 → Prop) : Prop := wp_X10_within a1 0 60 (fun r1 => r1 &&& 1 = r1 ∧ post r1)
set_option maxHeartbeats 4000000 in
set_option maxRecDepth 100000 in
theorem c_X10_isTick (l : Launch) (D : va_G) (cy : Nat → ClassId) (tz : Nat → Nat) (w : va_W) (a1 : Int32) (post : Int32 → Prop) (h : wp_X10_isTick a1 post) : CtI l D cy tz yX10_isTick ws_X10_isTick rm_X10_isTick [.int a1] w (fun _ : Unit => w) (fun r _ => post r) := by
  refine CtI.of (own := RX10) (nm := "isTick") (lv := [(0, .int a1)]) (plainFor_of_name (by decide)) rfl rfl (Nat.le_of_ble_eq_true rfl) rfl ?_
  intro p e s m args below meth c A Q ls B hP hD hS hl hret
  obtain ⟨hx, hb, hml, hown, hts, hK, hZ, hA, hnm⟩ := B
  have SF : CallFix p m c cX10_isTick 1 s args wsL_law RX10 := ⟨hx, hb, hml, hown, hts⟩
  unfold wp_X10_isTick at h
  refine lv_iload_n hx hb dX10_isTick_0 rfl (lv_at hl 0 rfl) ?_
  refine lv_iconst (v := 0) hx hb dX10_isTick_1 (by decide) ?_
  refine lv_bipush (v := 60) hx hb dX10_isTick_2 (by decide) ?_
  refine callSIr (rest := []) SF (c_X10_within l D cy tz _ a1 0 60 _ h) (cw_RX10_70 hts ⟨Nat.le_of_ble_eq_true rfl, Nat.le_of_ble_eq_true rfl⟩) rfl rfl hK hZ hA hP hD hS rfl hl.1 rfl (Nat.le_of_ble_eq_true rfl) dX10_isTick_4 ⟨Nat.zero_le _, Nat.zero_le _⟩ (fun r1 H locs h hP hD hS => ?_)
  exact hret _ () _ _ _ _ (narrow_b h.1) h.2 hP hD hS dX10_isTick_7
-- X10_turn
def rm_X10_turn : Room := { frames := 3, cells := 0, slots := 0, locals := 62 }
abbrev ws_X10_turn : List Cond := .code yX10_turn cX10_turn 3 (some .int) :: wsL_law
theorem cw_RX10_99 {R : Room} {s : State} {args : Array Value} (hts : ∀ w ∈ wsL_law, w.before args s = true) (hR : rm_X10_isTick.frames + 1 ≤ R.frames ∧ 8 + (1 + 11) + rm_X10_isTick.locals ≤ R.locals) : CallB R s args RX10 99 yX10_isTick cX10_isTick 1 (some .boolean) ws_X10_isTick rm_X10_isTick rm_X10_isTick.cells rm_X10_isTick.slots 1 ∧ (Cond.static yX10_isTick).before args s = true := va_cwS 1 hts (gdS w_10_10 w_10_11 w_1_2 w_10_12) rfl rfl rfl (by decide +kernel) hR
theorem cw_RX10_102 {R : Room} {s : State} {args : Array Value} (hts : ∀ w ∈ wsL_law, w.before args s = true) (hR : rm_X7_pace.frames + 1 ≤ R.frames ∧ 8 + (1 + 11) + rm_X7_pace.locals ≤ R.locals) : CallW R s args RX10 RX7 102 yX7_pace cX7_pace 1 (some .int) ws_X7_pace rm_X7_pace rm_X7_pace.cells rm_X7_pace.slots 0 := cwV 0 hts (gdV w_10_13 w_10_14 w_10_15 w_1_18 w_10_16) rfl rfl rfl (by decide +kernel) hR
theorem cw_RX10_105 {R : Room} {s : State} {args : Array Value} (hts : ∀ w ∈ wsL_law, w.before args s = true) (hR : rm_X5_run.frames + 1 ≤ R.frames ∧ 8 + (5 + 11) + rm_X5_run.locals ≤ R.locals) : CallW R s args RX10 RX5 105 yX5_run cX5_run 5 none ws_X5_run rm_X5_run rm_X5_run.cells rm_X5_run.slots 2 := cwV 2 hts (gdV w_10_17 w_10_18 w_10_19 w_1_23 w_10_20) rfl rfl rfl (by decide +kernel) hR
def wp_X10_turn (st : St) (a1 : Int32) (a2 : Int32) (post : Int32 → St → Prop) : Prop := wp_X10_isTick a1 (fun r1 => ((r1 = 0) → (post (-2) st)) ∧ ((¬ r1 = 0) → (wp_X10_within a2 0 1 (fun r4 => ((¬ r4 = 0) → (wp_X7_pace st (fun r7 => wp_X5_run st r7 (fun t10 => ((¬ a2 = 0) → (vp_in a1 61 ∧ (post ((gA t10 9 a1.toNatClampNeg) + 100) t10))) ∧ ((a2 = 0) → (vp_in a1 61 ∧ (post (gA t10 8 a1.toNatClampNeg) t10))))))) ∧ ((r4 = 0) → (post (-2) st))))))
set_option maxHeartbeats 4000000 in
set_option maxRecDepth 100000 in
theorem c_X10_turn (l : Launch) (D : va_G) (cy : Nat → ClassId) (tz : Nat → Nat) (ad : Nat → Nat) (st : St) (a1 : Int32) (a2 : Int32) (post : Int32 → St → Prop) (h : wp_X10_turn st a1 a2 post) : CtI l D cy tz yX10_turn ws_X10_turn rm_X10_turn [.ref (ad 0), .int a1, .int a2] (wX cy ad st) (wX cy ad) post := by
  refine CtI.of (own := RX10) (nm := "turn") (lv := [(0, .ref (ad 0)), (1, .int a1), (2, .int a2)]) (plainFor_of_name (by decide)) rfl rfl (Nat.le_of_ble_eq_true rfl) rfl ?_
  intro p e s m args below meth c A Q ls B hP hD hS hl hret
  obtain ⟨hx, hb, hml, hown, hts, hK, hZ, hA, hnm⟩ := B
  have SF : CallFix p m c cX10_turn 3 s args wsL_law RX10 := ⟨hx, hb, hml, hown, hts⟩
  unfold wp_X10_turn at h
  refine lv_iload_n hx hb dX10_turn_0 rfl (lv_at hl 1 rfl) ?_
  refine callSIr (rest := []) SF (c_X10_isTick l D cy tz _ a1 _ h) (cw_RX10_99 hts ⟨Nat.le_of_ble_eq_true rfl, Nat.le_of_ble_eq_true rfl⟩) rfl rfl hK hZ hA hP hD hS rfl hl.1 rfl (Nat.le_of_ble_eq_true rfl) dX10_turn_1 ⟨Nat.zero_le _, Nat.zero_le _⟩ (fun r1 H locs h hP hD hS => ?_)
  refine lv_if_eq (tgt := 16) hx hb dX10_turn_4 (by decide) (fun c3 => ?_) (fun c3 => ?_)
  · have h := h.1 c3
    refine lv_bipush (v := (-2)) hx hb dX10_turn_16 (by decide) ?_
    exact hret _ _ _ _ _ _ rfl h hP hD hS dX10_turn_18
  · have h := h.2 c3
    refine lv_iload_n hx hb dX10_turn_7 rfl (lv_at hl 2 rfl) ?_
    refine lv_iconst (v := 0) hx hb dX10_turn_8 (by decide) ?_
    refine lv_iconst (v := 1) hx hb dX10_turn_9 (by decide) ?_
    refine callSIr (rest := []) SF (c_X10_within l D cy tz _ a2 0 1 _ h) (cw_RX10_70 hts ⟨Nat.le_of_ble_eq_true rfl, Nat.le_of_ble_eq_true rfl⟩) rfl rfl hK hZ hA hP hD hS rfl hl.1 rfl (Nat.le_of_ble_eq_true rfl) dX10_turn_10 ⟨Nat.zero_le _, Nat.zero_le _⟩ (fun r4 H locs h hP hD hS => ?_)
    refine lv_if_ne (tgt := 19) hx hb dX10_turn_13 (by decide) (fun c6 => ?_) (fun c6 => ?_)
    · have h := h.1 c6
      refine lv_aload_n hx hb dX10_turn_19 rfl (lv_at hl 0 rfl) ?_
      refine va_get (D := D) (ci := 9) (v := .ref (ad 13)) (C := RX10) (T := TX10) (N := 8) hx hb hts inlX10 hown hK hP 0 rfl rfl 3 (by decide) (hts _ w_2_0) (fun _ h9 => h9) rfl dX10_turn_20 ?_
      refine lv_aload_n hx hb dX10_turn_23 rfl (lv_at hl 0 rfl) ?_
      refine va_get (D := D) (ci := 9) (v := .ref (ad 3)) (C := RX10) (T := TX10) (N := 8) hx hb hts inlX10 hown hK hP 0 rfl rfl 1 (by decide) (hts _ w_1_19) (fun _ h9 => h9) rfl dX10_turn_24 ?_
      refine lv_aload_n hx hb dX10_turn_27 rfl (lv_at hl 0 rfl) ?_
      refine va_get (D := D) (ci := 9) (v := .ref (ad 3)) (C := RX10) (T := TX10) (N := 8) hx hb hts inlX10 hown hK hP 0 rfl rfl 1 (by decide) (hts _ w_1_19) (fun _ h9 => h9) rfl dX10_turn_28 ?_
      refine callVIr (rest := [.ref (ad 3), .ref (ad 13)]) SF (c_X7_pace l D cy tz ad st _ h) (cw_RX10_102 hts ⟨Nat.le_of_ble_eq_true rfl, Nat.le_of_ble_eq_true rfl⟩) rfl rfl (va_recv hK hP (ci := 7) (q0 := 3) rfl rfl) hK hZ hA hP hD hS rfl hl.1 rfl (Nat.le_of_ble_eq_true rfl) dX10_turn_31 ⟨Nat.zero_le _, Nat.zero_le _⟩ (fun r7 H locs h hP hD hS => ?_)
      refine callVV (rest := []) SF (c_X5_run l D cy tz ad st r7 _ h) (cw_RX10_105 hts ⟨Nat.le_of_ble_eq_true rfl, Nat.le_of_ble_eq_true rfl⟩) rfl rfl (va_recv hK hP (ci := 5) (q0 := 13) rfl rfl) hK hZ hA hP hD hS rfl hl.1 rfl (Nat.le_of_ble_eq_true rfl) dX10_turn_34 ⟨Nat.zero_le _, Nat.zero_le _⟩ (fun t10 H locs h hP hD hS => ?_)
      refine lv_iload_n hx hb dX10_turn_37 rfl (lv_at hl 2 rfl) ?_
      refine lv_if_ne (tgt := 53) hx hb dX10_turn_38 (by decide) (fun c11 => ?_) (fun c11 => ?_)
      · have h := h.1 c11
        refine lv_aload_n hx hb dX10_turn_53 rfl (lv_at hl 0 rfl) ?_
        refine va_get (D := D) (ci := 9) (v := .ref (ad 13)) (C := RX10) (T := TX10) (N := 8) hx hb hts inlX10 hown hK hP 0 rfl rfl 3 (by decide) (hts _ w_2_0) (fun _ h9 => h9) rfl dX10_turn_54 ?_
        refine va_get (D := D) (ci := 5) (v := .ref (ad 15)) (C := RX5) (T := TX5) (N := 2) hx hb hts inlX5 hown hK hP 13 rfl rfl 1 (by decide) (hts _ w_10_9) (fun _ h9 => h9) rfl dX10_turn_57 ?_
        refine lv_iload_n hx hb dX10_turn_60 rfl (lv_at hl 1 rfl) ?_
        refine va_iald (f := gA t10 9) (n := 61) hx hb hK hP 15 0 rfl rfl h.1 dX10_turn_61 ?_
        have h := h.2
        refine lv_bipush (v := 100) hx hb dX10_turn_62 (by decide) ?_
        refine lv_iadd hx hb dX10_turn_64 ?_
        exact hret _ _ _ _ _ _ rfl h hP hD hS dX10_turn_65
      · have h := h.2 c11
        refine lv_aload_n hx hb dX10_turn_41 rfl (lv_at hl 0 rfl) ?_
        refine va_get (D := D) (ci := 9) (v := .ref (ad 13)) (C := RX10) (T := TX10) (N := 8) hx hb hts inlX10 hown hK hP 0 rfl rfl 3 (by decide) (hts _ w_2_0) (fun _ h9 => h9) rfl dX10_turn_42 ?_
        refine va_get (D := D) (ci := 5) (v := .ref (ad 14)) (C := RX5) (T := TX5) (N := 2) hx hb hts inlX5 hown hK hP 13 rfl rfl 0 (by decide) (hts _ w_10_8) (fun _ h9 => h9) rfl dX10_turn_45 ?_
        refine lv_iload_n hx hb dX10_turn_48 rfl (lv_at hl 1 rfl) ?_
        refine va_iald (f := gA t10 8) (n := 61) hx hb hK hP 14 0 rfl rfl h.1 dX10_turn_49 ?_
        have h := h.2
        refine lv_goto (tgt := 65) hx hb dX10_turn_50 (by decide) ?_
        exact hret _ _ _ _ _ _ rfl h hP hD hS dX10_turn_65
    · have h := h.2 c6
      refine lv_bipush (v := (-2)) hx hb dX10_turn_16 (by decide) ?_
      exact hret _ _ _ _ _ _ rfl h hP hD hS dX10_turn_18
-- X10_isWay
def rm_X10_isWay : Room := { frames := 1, cells := 0, slots := 0, locals := 22 }
abbrev ws_X10_isWay : List Cond := .code yX10_isWay cX10_isWay 1 (some .boolean) :: wsL_law
def wp_X10_isWay (a1 : Int32) (post : Int32 → Prop) : Prop := wp_X10_within a1 0 23 (fun r1 => r1 &&& 1 = r1 ∧ post r1)
set_option maxHeartbeats 4000000 in
set_option maxRecDepth 100000 in
theorem c_X10_isWay (l : Launch) (D : va_G) (cy : Nat → ClassId) (tz : Nat → Nat) (w : va_W) (a1 : Int32) (post : Int32 → Prop) (h : wp_X10_isWay a1 post) : CtI l D cy tz yX10_isWay ws_X10_isWay rm_X10_isWay [.int a1] w (fun _ : Unit => w) (fun r _ => post r) := by
  refine CtI.of (own := RX10) (nm := "isWay") (lv := [(0, .int a1)]) (plainFor_of_name (by decide)) rfl rfl (Nat.le_of_ble_eq_true rfl) rfl ?_
  intro p e s m args below meth c A Q ls B hP hD hS hl hret
  obtain ⟨hx, hb, hml, hown, hts, hK, hZ, hA, hnm⟩ := B
  have SF : CallFix p m c cX10_isWay 1 s args wsL_law RX10 := ⟨hx, hb, hml, hown, hts⟩
  unfold wp_X10_isWay at h
  refine lv_iload_n hx hb dX10_isWay_0 rfl (lv_at hl 0 rfl) ?_
  refine lv_iconst (v := 0) hx hb dX10_isWay_1 (by decide) ?_
  refine lv_bipush (v := 23) hx hb dX10_isWay_2 (by decide) ?_
  refine callSIr (rest := []) SF (c_X10_within l D cy tz _ a1 0 23 _ h) (cw_RX10_70 hts ⟨Nat.le_of_ble_eq_true rfl, Nat.le_of_ble_eq_true rfl⟩) rfl rfl hK hZ hA hP hD hS rfl hl.1 rfl (Nat.le_of_ble_eq_true rfl) dX10_isWay_4 ⟨Nat.zero_le _, Nat.zero_le _⟩ (fun r1 H locs h hP hD hS => ?_)
  exact hret _ () _ _ _ _ (narrow_b h.1) h.2 hP hD hS dX10_isWay_7
-- X10_sit
def rm_X10_sit : Room := { frames := 4, cells := 0, slots := 0, locals := 89 }
abbrev ws_X10_sit : List Cond := .code yX10_sit cX10_sit 3 (some .int) :: wsL_law
theorem cw_RX10_115 {R : Room} {s : State} {args : Array Value} (hts : ∀ w ∈ wsL_law, w.before args s = true) (hR : rm_X10_isWay.frames + 1 ≤ R.frames ∧ 8 + (1 + 11) + rm_X10_isWay.locals ≤ R.locals) : CallB R s args RX10 115 yX10_isWay cX10_isWay 1 (some .boolean) ws_X10_isWay rm_X10_isWay rm_X10_isWay.cells rm_X10_isWay.slots 1 ∧ (Cond.static yX10_isWay).before args s = true := va_cwS 1 hts (gdS w_12_21 w_12_22 w_1_2 w_12_23) rfl rfl rfl (by decide +kernel) hR
theorem cw_RX10_121 {R : Room} {s : State} {args : Array Value} (hts : ∀ w ∈ wsL_law, w.before args s = true) (hR : rm_X7_seat.frames + 1 ≤ R.frames ∧ 8 + (4 + 11) + rm_X7_seat.locals ≤ R.locals) : CallW R s args RX10 RX7 121 yX7_seat cX7_seat 4 (some .int) ws_X7_seat rm_X7_seat rm_X7_seat.cells rm_X7_seat.slots 2 := cwV 2 hts (gdV w_13_0 w_13_1 w_13_2 w_1_18 w_13_3) rfl rfl rfl (by decide +kernel) hR
def wp_X10_sit (st : St) (a1 : Int32) (a2 : Int32) (post : Int32 → St → Prop) : Prop := wp_X10_within a1 0 1000 (fun r1 => ((r1 = 0) → (post (-2) st)) ∧ ((¬ r1 = 0) → (wp_X10_isWay a2 (fun r4 => ((¬ r4 = 0) → (((¬ gI st 1 = 8) → (wp_X7_seat st a1 a2 (fun r8 t9 => post r8 t9))) ∧ ((gI st 1 = 8) → (post (-4) st)))) ∧ ((r4 = 0) → (post (-2) st))))))
set_option maxHeartbeats 4000000 in
set_option maxRecDepth 100000 in
theorem c_X10_sit (l : Launch) (D : va_G) (cy : Nat → ClassId) (tz : Nat → Nat) (ad : Nat → Nat) (st : St) (a1 : Int32) (a2 : Int32) (post : Int32 → St → Prop) (h : wp_X10_sit st a1 a2 post) : CtI l D cy tz yX10_sit ws_X10_sit rm_X10_sit [.ref (ad 0), .int a1, .int a2] (wX cy ad st) (wX cy ad) post := by
  refine CtI.of (own := RX10) (nm := "sit") (lv := [(0, .ref (ad 0)), (1, .int a1), (2, .int a2)]) (plainFor_of_name (by decide)) rfl rfl (Nat.le_of_ble_eq_true rfl) rfl ?_
  intro p e s m args below meth c A Q ls B hP hD hS hl hret
  obtain ⟨hx, hb, hml, hown, hts, hK, hZ, hA, hnm⟩ := B
  have SF : CallFix p m c cX10_sit 3 s args wsL_law RX10 := ⟨hx, hb, hml, hown, hts⟩
  unfold wp_X10_sit at h
  refine lv_iload_n hx hb dX10_sit_0 rfl (lv_at hl 1 rfl) ?_
  refine lv_iconst (v := 0) hx hb dX10_sit_1 (by decide) ?_
  refine lv_sipush (v := 1000) hx hb dX10_sit_2 (by decide) ?_
  refine callSIr (rest := []) SF (c_X10_within l D cy tz _ a1 0 1000 _ h) (cw_RX10_70 hts ⟨Nat.le_of_ble_eq_true rfl, Nat.le_of_ble_eq_true rfl⟩) rfl rfl hK hZ hA hP hD hS rfl hl.1 rfl (Nat.le_of_ble_eq_true rfl) dX10_sit_5 ⟨Nat.zero_le _, Nat.zero_le _⟩ (fun r1 H locs h hP hD hS => ?_)
  refine lv_if_eq (tgt := 18) hx hb dX10_sit_8 (by decide) (fun c3 => ?_) (fun c3 => ?_)
  · have h := h.1 c3
    refine lv_bipush (v := (-2)) hx hb dX10_sit_18 (by decide) ?_
    exact hret _ _ _ _ _ _ rfl h hP hD hS dX10_sit_20
  · have h := h.2 c3
    refine lv_iload_n hx hb dX10_sit_11 rfl (lv_at hl 2 rfl) ?_
    refine callSIr (rest := []) SF (c_X10_isWay l D cy tz _ a2 _ h) (cw_RX10_115 hts ⟨Nat.le_of_ble_eq_true rfl, Nat.le_of_ble_eq_true rfl⟩) rfl rfl hK hZ hA hP hD hS rfl hl.1 rfl (Nat.le_of_ble_eq_true rfl) dX10_sit_12 ⟨Nat.zero_le _, Nat.zero_le _⟩ (fun r4 H locs h hP hD hS => ?_)
    refine lv_if_ne (tgt := 21) hx hb dX10_sit_15 (by decide) (fun c6 => ?_) (fun c6 => ?_)
    · have h := h.1 c6
      refine lv_aload_n hx hb dX10_sit_21 rfl (lv_at hl 0 rfl) ?_
      refine va_get (D := D) (ci := 9) (v := .ref (ad 3)) (C := RX10) (T := TX10) (N := 8) hx hb hts inlX10 hown hK hP 0 rfl rfl 1 (by decide) (hts _ w_1_19) (fun _ h9 => h9) rfl dX10_sit_22 ?_
      refine va_get (D := D) (ci := 7) (v := .int (gI st 1)) (C := RX7) (T := TX7) (N := 6) hx hb hts inlX7 hown hK hP 3 rfl rfl 5 (by decide) (hts _ w_12_20) (fun _ h9 => h9) rfl dX10_sit_25 ?_
      refine lv_bipush (v := 8) hx hb dX10_sit_28 (by decide) ?_
      refine lv_icmp_ne (tgt := 36) hx hb dX10_sit_30 (by decide) (fun c7 => ?_) (fun c7 => ?_)
      · have h := h.1 c7
        refine lv_aload_n hx hb dX10_sit_36 rfl (lv_at hl 0 rfl) ?_
        refine va_get (D := D) (ci := 9) (v := .ref (ad 3)) (C := RX10) (T := TX10) (N := 8) hx hb hts inlX10 hown hK hP 0 rfl rfl 1 (by decide) (hts _ w_1_19) (fun _ h9 => h9) rfl dX10_sit_37 ?_
        refine lv_iload_n hx hb dX10_sit_40 rfl (lv_at hl 1 rfl) ?_
        refine lv_iload_n hx hb dX10_sit_41 rfl (lv_at hl 2 rfl) ?_
        refine callVI (rest := []) SF (c_X7_seat l D cy tz ad st a1 a2 _ h) (cw_RX10_121 hts ⟨Nat.le_of_ble_eq_true rfl, Nat.le_of_ble_eq_true rfl⟩) rfl rfl (va_recv hK hP (ci := 7) (q0 := 3) rfl rfl) hK hZ hA hP hD hS rfl hl.1 rfl (Nat.le_of_ble_eq_true rfl) dX10_sit_42 ⟨Nat.zero_le _, Nat.zero_le _⟩ (fun r8 t9 H locs h hP hD hS => ?_)
        exact hret _ _ _ _ _ _ rfl h hP hD hS dX10_sit_45
      · have h := h.2 c7
        refine lv_bipush (v := (-4)) hx hb dX10_sit_33 (by decide) ?_
        exact hret _ _ _ _ _ _ rfl h hP hD hS dX10_sit_35
    · have h := h.2 c6
      refine lv_bipush (v := (-2)) hx hb dX10_sit_18 (by decide) ?_
      exact hret _ _ _ _ _ _ rfl h hP hD hS dX10_sit_20
-- X10_point
def rm_X10_point : Room := { frames := 3, cells := 0, slots := 0, locals := 66 }
abbrev ws_X10_point : List Cond := .code yX10_point cX10_point 7 (some .int) :: wsL_law
theorem cw_RX10_125 {R : Room} {s : State} {args : Array Value} (hts : ∀ w ∈ wsL_law, w.before args s = true) (hR : rm_X7_hasOne.frames + 1 ≤ R.frames ∧ 8 + (2 + 11) + rm_X7_hasOne.locals ≤ R.locals) : CallW R s args RX10 RX7 125 yX7_hasOne cX7_hasOne 2 (some .boolean) ws_X7_hasOne rm_X7_hasOne rm_X7_hasOne.cells rm_X7_hasOne.slots 1 := cwV 1 hts (gdV w_14_22 w_14_23 w_15_0 w_1_18 w_15_1) rfl rfl rfl (by decide +kernel) hR
theorem cw_RX10_136 {R : Room} {s : State} {args : Array Value} (hts : ∀ w ∈ wsL_law, w.before args s = true) (hR : rm_X5_wayBehind.frames + 1 ≤ R.frames ∧ 8 + (2 + 11) + rm_X5_wayBehind.locals ≤ R.locals) : CallW R s args RX10 RX5 136 yX5_wayBehind cX5_wayBehind 2 (some .int) ws_X5_wayBehind rm_X5_wayBehind rm_X5_wayBehind.cells rm_X5_wayBehind.slots 1 := cwV 1 hts (gdV w_15_2 w_15_3 w_15_4 w_1_23 w_15_5) rfl rfl rfl (by decide +kernel) hR
theorem cw_RX10_146 {R : Room} {s : State} {args : Array Value} (hts : ∀ w ∈ wsL_law, w.before args s = true) (hR : rm_X9_turnY.frames + 1 ≤ R.frames ∧ 8 + (5 + 11) + rm_X9_turnY.locals ≤ R.locals) : CallB R s args RX10 146 yX9_turnY cX9_turnY 5 (some .long) ws_X9_turnY rm_X9_turnY rm_X9_turnY.cells rm_X9_turnY.slots 3 ∧ (Cond.static yX9_turnY).before args s = true := va_cwS 3 hts (gdS w_15_10 w_13_19 w_13_7 w_13_20) rfl rfl rfl (by decide +kernel) hR
theorem cw_RX10_140 {R : Room} {s : State} {args : Array Value} (hts : ∀ w ∈ wsL_law, w.before args s = true) (hR : rm_X9_turnX.frames + 1 ≤ R.frames ∧ 8 + (5 + 11) + rm_X9_turnX.locals ≤ R.locals) : CallB R s args RX10 140 yX9_turnX cX9_turnX 5 (some .long) ws_X9_turnX rm_X9_turnX rm_X9_turnX.cells rm_X9_turnX.slots 3 ∧ (Cond.static yX9_turnX).before args s = true := va_cwS 3 hts (gdS w_15_9 w_13_6 w_13_7 w_13_8) rfl rfl rfl (by decide +kernel) hR
def wp_X10_point (st : St) (a1 : Int32) (a2 : Int32) (a3 : Int32) (post : Int32 → St → Prop) : Prop := wp_X7_hasOne st a1 (fun r1 => ((¬ r1 = 0) → (wp_X10_isTick a2 (fun r4 => ((r4 = 0) → (post (-100000002) st)) ∧ ((¬ r4 = 0) → (wp_X10_within a3 0 3 (fun r7 => ((¬ r7 = 0) → (vp_in a1 8 ∧ (∀ x10 : Int32, x10 = (gA st 6 a1.toNatClampNeg) → (vp_in a1 8 ∧ (∀ x12 : Int32, x12 = (gA st 7 a1.toNatClampNeg) → (((2 ≤ a3) → (wp_X7_pace st (fun r15 => wp_X5_run st r15 (fun t18 => wp_X5_wayBehind t18 a2 (fun r19 => ((¬ a3 = 2) → (wp_X9_turnY x10.toInt64 x12.toInt64 r19 (fun r22 => post r22.toInt32 t18))) ∧ ((a3 = 2) → (wp_X9_turnX x10.toInt64 x12.toInt64 r19 (fun r24 => post r24.toInt32 t18)))))))) ∧ ((¬ 2 ≤ a3) → (((¬ a3 = 0) → (post x12 st)) ∧ ((a3 = 0) → (post x10 st)))))))))) ∧ ((r7 = 0) → (post (-100000002) st)))))))) ∧ ((r1 = 0) → (post (-100000001) st)))
set_option maxHeartbeats 4000000 in
set_option maxRecDepth 100000 in
theorem c_X10_point (l : Launch) (D : va_G) (cy : Nat → ClassId) (tz : Nat → Nat) (ad : Nat → Nat) (st : St) (a1 : Int32) (a2 : Int32) (a3 : Int32) (post : Int32 → St → Prop) (h : wp_X10_point st a1 a2 a3 post) : CtI l D cy tz yX10_point ws_X10_point rm_X10_point [.ref (ad 0), .int a1, .int a2, .int a3] (wX cy ad st) (wX cy ad) post := by
  refine CtI.of (own := RX10) (nm := "point") (lv := [(0, .ref (ad 0)), (1, .int a1), (2, .int a2), (3, .int a3)]) (plainFor_of_name (by decide)) rfl rfl (Nat.le_of_ble_eq_true rfl) rfl ?_
  intro p e s m args below meth c A Q ls B hP hD hS hl hret
  obtain ⟨hx, hb, hml, hown, hts, hK, hZ, hA, hnm⟩ := B
  have SF : CallFix p m c cX10_point 7 s args wsL_law RX10 := ⟨hx, hb, hml, hown, hts⟩
  unfold wp_X10_point at h
  refine lv_aload_n hx hb dX10_point_0 rfl (lv_at hl 0 rfl) ?_
  refine va_get (D := D) (ci := 9) (v := .ref (ad 3)) (C := RX10) (T := TX10) (N := 8) hx hb hts inlX10 hown hK hP 0 rfl rfl 1 (by decide) (hts _ w_1_19) (fun _ h9 => h9) rfl dX10_point_1 ?_
  refine lv_iload_n hx hb dX10_point_4 rfl (lv_at hl 1 rfl) ?_
  refine callVIr (rest := []) SF (c_X7_hasOne l D cy tz ad st a1 _ h) (cw_RX10_125 hts ⟨Nat.le_of_ble_eq_true rfl, Nat.le_of_ble_eq_true rfl⟩) rfl rfl (va_recv hK hP (ci := 7) (q0 := 3) rfl rfl) hK hZ hA hP hD hS rfl hl.1 rfl (Nat.le_of_ble_eq_true rfl) dX10_point_5 ⟨Nat.zero_le _, Nat.zero_le _⟩ (fun r1 H locs h hP hD hS => ?_)
  refine lv_if_ne (tgt := 14) hx hb dX10_point_8 (by decide) (fun c3 => ?_) (fun c3 => ?_)
  · have h := h.1 c3
    refine lv_iload_n hx hb dX10_point_14 rfl (lv_at hl 2 rfl) ?_
    refine callSIr (rest := []) SF (c_X10_isTick l D cy tz _ a2 _ h) (cw_RX10_99 hts ⟨Nat.le_of_ble_eq_true rfl, Nat.le_of_ble_eq_true rfl⟩) rfl rfl hK hZ hA hP hD hS rfl hl.1 rfl (Nat.le_of_ble_eq_true rfl) dX10_point_15 ⟨Nat.zero_le _, Nat.zero_le _⟩ (fun r4 H locs h hP hD hS => ?_)
    refine lv_if_eq (tgt := 30) hx hb dX10_point_18 (by decide) (fun c6 => ?_) (fun c6 => ?_)
    · have h := h.1 c6
      refine lv_ldc (v := (-100000002)) hx hb hown (hts _ w_14_19) dX10_point_30 ?_
      exact hret _ _ _ _ _ _ rfl h hP hD hS dX10_point_32
    · have h := h.2 c6
      refine lv_iload_n hx hb dX10_point_21 rfl (lv_at hl 3 rfl) ?_
      refine lv_iconst (v := 0) hx hb dX10_point_22 (by decide) ?_
      refine lv_iconst (v := 3) hx hb dX10_point_23 (by decide) ?_
      refine callSIr (rest := []) SF (c_X10_within l D cy tz _ a3 0 3 _ h) (cw_RX10_70 hts ⟨Nat.le_of_ble_eq_true rfl, Nat.le_of_ble_eq_true rfl⟩) rfl rfl hK hZ hA hP hD hS rfl hl.1 rfl (Nat.le_of_ble_eq_true rfl) dX10_point_24 ⟨Nat.zero_le _, Nat.zero_le _⟩ (fun r7 H locs h hP hD hS => ?_)
      refine lv_if_ne (tgt := 33) hx hb dX10_point_27 (by decide) (fun c9 => ?_) (fun c9 => ?_)
      · have h := h.1 c9
        refine lv_aload_n hx hb dX10_point_33 rfl (lv_at hl 0 rfl) ?_
        refine va_get (D := D) (ci := 9) (v := .ref (ad 3)) (C := RX10) (T := TX10) (N := 8) hx hb hts inlX10 hown hK hP 0 rfl rfl 1 (by decide) (hts _ w_1_19) (fun _ h9 => h9) rfl dX10_point_34 ?_
        refine va_get (D := D) (ci := 7) (v := .ref (ad 11)) (C := RX7) (T := TX7) (N := 6) hx hb hts inlX7 hown hK hP 3 rfl rfl 3 (by decide) (hts _ w_14_20) (fun _ h9 => h9) rfl dX10_point_37 ?_
        refine lv_iload_n hx hb dX10_point_40 rfl (lv_at hl 1 rfl) ?_
        refine va_iald (f := gA st 6) (n := 8) hx hb hK hP 11 0 rfl rfl h.1 dX10_point_41 ?_
        have h := h.2
        refine lv_topi (fun x10 e11 => ?_)
        have h := h x10 e11
        refine lv_istore (lv' := [(4, .int x10), (0, .ref (ad 0)), (1, .int a1), (2, .int a2), (3, .int a3)]) hx hb dX10_point_42 hl (by decide) rfl (fun ls hl => ?_)
        refine lv_aload_n hx hb dX10_point_44 rfl (lv_at hl 1 rfl) ?_
        refine va_get (D := D) (ci := 9) (v := .ref (ad 3)) (C := RX10) (T := TX10) (N := 8) hx hb hts inlX10 hown hK hP 0 rfl rfl 1 (by decide) (hts _ w_1_19) (fun _ h9 => h9) rfl dX10_point_45 ?_
        refine va_get (D := D) (ci := 7) (v := .ref (ad 12)) (C := RX7) (T := TX7) (N := 6) hx hb hts inlX7 hown hK hP 3 rfl rfl 4 (by decide) (hts _ w_14_21) (fun _ h9 => h9) rfl dX10_point_48 ?_
        refine lv_iload_n hx hb dX10_point_51 rfl (lv_at hl 2 rfl) ?_
        refine va_iald (f := gA st 7) (n := 8) hx hb hK hP 12 0 rfl rfl h.1 dX10_point_52 ?_
        have h := h.2
        refine lv_topi (fun x12 e13 => ?_)
        have h := h x12 e13
        refine lv_istore (lv' := [(5, .int x12), (4, .int x10), (0, .ref (ad 0)), (1, .int a1), (2, .int a2), (3, .int a3)]) hx hb dX10_point_53 hl (by decide) rfl (fun ls hl => ?_)
        refine lv_iload_n hx hb dX10_point_55 rfl (lv_at hl 5 rfl) ?_
        refine lv_iconst (v := 2) hx hb dX10_point_56 (by decide) ?_
        refine lv_icmp_ge (tgt := 72) hx hb dX10_point_57 (by decide) (fun c14 => ?_) (fun c14 => ?_)
        · have h := h.1 c14
          refine lv_aload_n hx hb dX10_point_72 rfl (lv_at hl 2 rfl) ?_
          refine va_get (D := D) (ci := 9) (v := .ref (ad 13)) (C := RX10) (T := TX10) (N := 8) hx hb hts inlX10 hown hK hP 0 rfl rfl 3 (by decide) (hts _ w_2_0) (fun _ h9 => h9) rfl dX10_point_73 ?_
          refine lv_aload_n hx hb dX10_point_76 rfl (lv_at hl 2 rfl) ?_
          refine va_get (D := D) (ci := 9) (v := .ref (ad 3)) (C := RX10) (T := TX10) (N := 8) hx hb hts inlX10 hown hK hP 0 rfl rfl 1 (by decide) (hts _ w_1_19) (fun _ h9 => h9) rfl dX10_point_77 ?_
          refine lv_aload_n hx hb dX10_point_80 rfl (lv_at hl 2 rfl) ?_
          refine va_get (D := D) (ci := 9) (v := .ref (ad 3)) (C := RX10) (T := TX10) (N := 8) hx hb hts inlX10 hown hK hP 0 rfl rfl 1 (by decide) (hts _ w_1_19) (fun _ h9 => h9) rfl dX10_point_81 ?_
          refine callVIr (rest := [.ref (ad 3), .ref (ad 13)]) SF (c_X7_pace l D cy tz ad st _ h) (cw_RX10_102 hts ⟨Nat.le_of_ble_eq_true rfl, Nat.le_of_ble_eq_true rfl⟩) rfl rfl (va_recv hK hP (ci := 7) (q0 := 3) rfl rfl) hK hZ hA hP hD hS rfl hl.1 rfl (Nat.le_of_ble_eq_true rfl) dX10_point_84 ⟨Nat.zero_le _, Nat.zero_le _⟩ (fun r15 H locs h hP hD hS => ?_)
          refine callVV (rest := []) SF (c_X5_run l D cy tz ad st r15 _ h) (cw_RX10_105 hts ⟨Nat.le_of_ble_eq_true rfl, Nat.le_of_ble_eq_true rfl⟩) rfl rfl (va_recv hK hP (ci := 5) (q0 := 13) rfl rfl) hK hZ hA hP hD hS rfl hl.1 rfl (Nat.le_of_ble_eq_true rfl) dX10_point_87 ⟨Nat.zero_le _, Nat.zero_le _⟩ (fun t18 H locs h hP hD hS => ?_)
          refine lv_aload_n hx hb dX10_point_90 rfl (lv_at hl 2 rfl) ?_
          refine va_get (D := D) (ci := 9) (v := .ref (ad 13)) (C := RX10) (T := TX10) (N := 8) hx hb hts inlX10 hown hK hP 0 rfl rfl 3 (by decide) (hts _ w_2_0) (fun _ h9 => h9) rfl dX10_point_91 ?_
          refine lv_iload_n hx hb dX10_point_94 rfl (lv_at hl 4 rfl) ?_
          refine callVIr (rest := []) SF (c_X5_wayBehind l D cy tz ad t18 a2 _ h) (cw_RX10_136 hts ⟨Nat.le_of_ble_eq_true rfl, Nat.le_of_ble_eq_true rfl⟩) rfl rfl (va_recv hK hP (ci := 5) (q0 := 13) rfl rfl) hK hZ hA hP hD hS rfl hl.1 rfl (Nat.le_of_ble_eq_true rfl) dX10_point_95 ⟨Nat.zero_le _, Nat.zero_le _⟩ (fun r19 H locs h hP hD hS => ?_)
          refine lv_istore (lv' := [(6, .int r19), (5, .int x12), (4, .int x10), (0, .ref (ad 0)), (1, .int a1), (2, .int a2), (3, .int a3)]) hx hb dX10_point_98 hl (by decide) rfl (fun ls hl => ?_)
          refine lv_iload_n hx hb dX10_point_100 rfl (lv_at hl 6 rfl) ?_
          refine lv_iconst (v := 2) hx hb dX10_point_101 (by decide) ?_
          refine lv_icmp_ne (tgt := 119) hx hb dX10_point_102 (by decide) (fun c21 => ?_) (fun c21 => ?_)
          · have h := h.1 c21
            refine lv_iload hx hb dX10_point_119 (lv_at hl 2 rfl) ?_
            refine lv_i2l (v := x10.toInt64) hx hb dX10_point_121 rfl ?_
            refine lv_iload hx hb dX10_point_122 (lv_at hl 1 rfl) ?_
            refine lv_i2l (v := x12.toInt64) hx hb dX10_point_124 rfl ?_
            refine lv_iload hx hb dX10_point_125 (lv_at hl 0 rfl) ?_
            refine callSLr (rest := []) SF (c_X9_turnY l D cy tz _ x10.toInt64 x12.toInt64 r19 _ h) (cw_RX10_146 hts ⟨Nat.le_of_ble_eq_true rfl, Nat.le_of_ble_eq_true rfl⟩) rfl rfl hK hZ hA hP hD hS rfl hl.1 rfl (Nat.le_of_ble_eq_true rfl) dX10_point_127 ⟨Nat.zero_le _, Nat.zero_le _⟩ (fun r22 H locs h hP hD hS => ?_)
            refine lv_l2i (v := r22.toInt32) hx hb dX10_point_130 rfl ?_
            exact hret _ _ _ _ _ _ rfl h hP hD hS dX10_point_131
          · have h := h.2 c21
            refine lv_iload hx hb dX10_point_105 (lv_at hl 2 rfl) ?_
            refine lv_i2l (v := x10.toInt64) hx hb dX10_point_107 rfl ?_
            refine lv_iload hx hb dX10_point_108 (lv_at hl 1 rfl) ?_
            refine lv_i2l (v := x12.toInt64) hx hb dX10_point_110 rfl ?_
            refine lv_iload hx hb dX10_point_111 (lv_at hl 0 rfl) ?_
            refine callSLr (rest := []) SF (c_X9_turnX l D cy tz _ x10.toInt64 x12.toInt64 r19 _ h) (cw_RX10_140 hts ⟨Nat.le_of_ble_eq_true rfl, Nat.le_of_ble_eq_true rfl⟩) rfl rfl hK hZ hA hP hD hS rfl hl.1 rfl (Nat.le_of_ble_eq_true rfl) dX10_point_113 ⟨Nat.zero_le _, Nat.zero_le _⟩ (fun r24 H locs h hP hD hS => ?_)
            refine lv_goto (tgt := 130) hx hb dX10_point_116 (by decide) ?_
            refine lv_l2i (v := r24.toInt32) hx hb dX10_point_130 rfl ?_
            exact hret _ _ _ _ _ _ rfl h hP hD hS dX10_point_131
        · have h := h.2 c14
          refine lv_iload_n hx hb dX10_point_60 rfl (lv_at hl 5 rfl) ?_
          refine lv_if_ne (tgt := 69) hx hb dX10_point_61 (by decide) (fun c26 => ?_) (fun c26 => ?_)
          · have h := h.1 c26
            refine lv_iload hx hb dX10_point_69 (lv_at hl 0 rfl) ?_
            exact hret _ _ _ _ _ _ rfl h hP hD hS dX10_point_71
          · have h := h.2 c26
            refine lv_iload hx hb dX10_point_64 (lv_at hl 1 rfl) ?_
            refine lv_goto (tgt := 71) hx hb dX10_point_66 (by decide) ?_
            exact hret _ _ _ _ _ _ rfl h hP hD hS dX10_point_71
      · have h := h.2 c9
        refine lv_ldc (v := (-100000002)) hx hb hown (hts _ w_14_19) dX10_point_30 ?_
        exact hret _ _ _ _ _ _ rfl h hP hD hS dX10_point_32
  · have h := h.2 c3
    refine lv_ldc (v := (-100000001)) hx hb hown (hts _ w_14_18) dX10_point_11 ?_
    exact hret _ _ _ _ _ _ rfl h hP hD hS dX10_point_13
-- X10_isThrow
def rm_X10_isThrow : Room := { frames := 2, cells := 0, slots := 0, locals := 42 }
abbrev ws_X10_isThrow : List Cond := .code yX10_isThrow cX10_isThrow 2 (some .boolean) :: wsL_law
def wp_X10_isThrow (a1 : Int32) (a2 : Int32) (post : Int32 → Prop) : Prop := wp_X10_within a1 0 200 (fun r1 => ((r1 = 0) → (post 0)) ∧ ((¬ r1 = 0) → (wp_X10_isWay a2 (fun r4 => ((r4 = 0) → (post 0)) ∧ ((¬ r4 = 0) → (post 1))))))
set_option maxHeartbeats 4000000 in
set_option maxRecDepth 100000 in
theorem c_X10_isThrow (l : Launch) (D : va_G) (cy : Nat → ClassId) (tz : Nat → Nat) (w : va_W) (a1 : Int32) (a2 : Int32) (post : Int32 → Prop) (h : wp_X10_isThrow a1 a2 post) : CtI l D cy tz yX10_isThrow ws_X10_isThrow rm_X10_isThrow [.int a1, .int a2] w (fun _ : Unit => w) (fun r _ => post r) := by
  refine CtI.of (own := RX10) (nm := "isThrow") (lv := [(0, .int a1), (1, .int a2)]) (plainFor_of_name (by decide)) rfl rfl (Nat.le_of_ble_eq_true rfl) rfl ?_
  intro p e s m args below meth c A Q ls B hP hD hS hl hret
  obtain ⟨hx, hb, hml, hown, hts, hK, hZ, hA, hnm⟩ := B
  have SF : CallFix p m c cX10_isThrow 2 s args wsL_law RX10 := ⟨hx, hb, hml, hown, hts⟩
  unfold wp_X10_isThrow at h
  refine lv_iload_n hx hb dX10_isThrow_0 rfl (lv_at hl 0 rfl) ?_
  refine lv_iconst (v := 0) hx hb dX10_isThrow_1 (by decide) ?_
  refine lv_sipush (v := 200) hx hb dX10_isThrow_2 (by decide) ?_
  refine callSIr (rest := []) SF (c_X10_within l D cy tz _ a1 0 200 _ h) (cw_RX10_70 hts ⟨Nat.le_of_ble_eq_true rfl, Nat.le_of_ble_eq_true rfl⟩) rfl rfl hK hZ hA hP hD hS rfl hl.1 rfl (Nat.le_of_ble_eq_true rfl) dX10_isThrow_5 ⟨Nat.zero_le _, Nat.zero_le _⟩ (fun r1 H locs h hP hD hS => ?_)
  refine lv_if_eq (tgt := 22) hx hb dX10_isThrow_8 (by decide) (fun c3 => ?_) (fun c3 => ?_)
  · have h := h.1 c3
    refine lv_iconst (v := 0) hx hb dX10_isThrow_22 (by decide) ?_
    exact hret _ () _ _ _ _ rfl h hP hD hS dX10_isThrow_23
  · have h := h.2 c3
    refine lv_iload_n hx hb dX10_isThrow_11 rfl (lv_at hl 1 rfl) ?_
    refine callSIr (rest := []) SF (c_X10_isWay l D cy tz _ a2 _ h) (cw_RX10_115 hts ⟨Nat.le_of_ble_eq_true rfl, Nat.le_of_ble_eq_true rfl⟩) rfl rfl hK hZ hA hP hD hS rfl hl.1 rfl (Nat.le_of_ble_eq_true rfl) dX10_isThrow_12 ⟨Nat.zero_le _, Nat.zero_le _⟩ (fun r4 H locs h hP hD hS => ?_)
    refine lv_if_eq (tgt := 22) hx hb dX10_isThrow_15 (by decide) (fun c6 => ?_) (fun c6 => ?_)
    · have h := h.1 c6
      refine lv_iconst (v := 0) hx hb dX10_isThrow_22 (by decide) ?_
      exact hret _ () _ _ _ _ rfl h hP hD hS dX10_isThrow_23
    · have h := h.2 c6
      refine lv_iconst (v := 1) hx hb dX10_isThrow_18 (by decide) ?_
      refine lv_goto (tgt := 23) hx hb dX10_isThrow_19 (by decide) ?_
      exact hret _ () _ _ _ _ rfl h hP hD hS dX10_isThrow_23
-- X10_ball
def rm_X10_ball : Room := { frames := 5, cells := 0, slots := 0, locals := 114 }
abbrev ws_X10_ball : List Cond := .code yX10_ball cX10_ball 11 (some .int) :: wsL_law
theorem cw_RX10_149 {R : Room} {s : State} {args : Array Value} (hts : ∀ w ∈ wsL_law, w.before args s = true) (hR : rm_X10_isThrow.frames + 1 ≤ R.frames ∧ 8 + (2 + 11) + rm_X10_isThrow.locals ≤ R.locals) : CallB R s args RX10 149 yX10_isThrow cX10_isThrow 2 (some .boolean) ws_X10_isThrow rm_X10_isThrow rm_X10_isThrow.cells rm_X10_isThrow.slots 2 ∧ (Cond.static yX10_isThrow).before args s = true := va_cwS 2 hts (gdS w_16_10 w_16_11 w_1_2 w_16_12) rfl rfl rfl (by decide +kernel) hR
theorem cw_RX10_152 {R : Room} {s : State} {args : Array Value} (hts : ∀ w ∈ wsL_law, w.before args s = true) (hR : rm_X0_launch.frames + 1 ≤ R.frames ∧ 8 + (7 + 11) + rm_X0_launch.locals ≤ R.locals) : CallW R s args RX10 RX0 152 yX0_launch cX0_launch 7 none ws_X0_launch rm_X0_launch rm_X0_launch.cells rm_X0_launch.slots 5 := cwV 5 hts (gdV w_16_13 w_16_14 w_16_15 w_2_3 w_16_16) rfl rfl rfl (by decide +kernel) hR
theorem cw_RX10_156 {R : Room} {s : State} {args : Array Value} (hts : ∀ w ∈ wsL_law, w.before args s = true) (hR : rm_X0_xBehind.frames + 1 ≤ R.frames ∧ 8 + (2 + 11) + rm_X0_xBehind.locals ≤ R.locals) : CallW R s args RX10 RX0 156 yX0_xBehind cX0_xBehind 2 (some .long) ws_X0_xBehind rm_X0_xBehind rm_X0_xBehind.cells rm_X0_xBehind.slots 1 := cwV 1 hts (gdV w_17_6 w_17_7 w_17_8 w_2_3 w_17_9) rfl rfl rfl (by decide +kernel) hR
theorem cw_RX10_160 {R : Room} {s : State} {args : Array Value} (hts : ∀ w ∈ wsL_law, w.before args s = true) (hR : rm_X0_yBehind.frames + 1 ≤ R.frames ∧ 8 + (2 + 11) + rm_X0_yBehind.locals ≤ R.locals) : CallW R s args RX10 RX0 160 yX0_yBehind cX0_yBehind 2 (some .long) ws_X0_yBehind rm_X0_yBehind rm_X0_yBehind.cells rm_X0_yBehind.slots 1 := cwV 1 hts (gdV w_17_10 w_17_11 w_17_12 w_2_3 w_17_13) rfl rfl rfl (by decide +kernel) hR
theorem cw_RX10_163 {R : Room} {s : State} {args : Array Value} (hts : ∀ w ∈ wsL_law, w.before args s = true) (hR : rm_X5_wayBack.frames + 1 ≤ R.frames ∧ 8 + (2 + 11) + rm_X5_wayBack.locals ≤ R.locals) : CallW R s args RX10 RX5 163 yX5_wayBack cX5_wayBack 2 (some .int) ws_X5_wayBack rm_X5_wayBack rm_X5_wayBack.cells rm_X5_wayBack.slots 1 := cwV 1 hts (gdV w_17_14 w_17_15 w_17_16 w_1_23 w_17_17) rfl rfl rfl (by decide +kernel) hR
def wp_X10_ball (st : St) (a1 : Int32) (a2 : Int32) (a3 : Int32) (a4 : Int32) (a5 : Int32) (post : Int32 → St → Prop) : Prop := wp_X7_hasOne st a1 (fun r1 => ((¬ r1 = 0) → (wp_X10_isThrow a2 a3 (fun r4 => ((r4 = 0) → (post (-100000002) st)) ∧ ((¬ r4 = 0) → (wp_X10_isTick a4 (fun r7 => ((r7 = 0) → (post (-100000002) st)) ∧ ((¬ r7 = 0) → (wp_X10_within a5 0 3 (fun r10 => ((¬ r10 = 0) → (wp_X7_pace st (fun r13 => wp_X5_run st r13 (fun t16 => vp_in a1 8 ∧ (vp_in a1 8 ∧ (wp_X0_launch t16 (gA t16 6 a1.toNatClampNeg) (gA t16 7 a1.toNatClampNeg) a2 a3 (fun t18 => wp_X0_xBehind t18 a4 (fun r19 => wp_X0_yBehind t18 a4 (fun r21 => wp_X5_wayBack t18 a4 (fun r23 => ((a5.toInt < 0 ∨ 2 < a5.toInt) → (wp_X9_turnY r19 r21 r23 (fun r26 => post r26.toInt32 t18))) ∧ ((a5.toInt = 0) → (post r19.toInt32 t18)) ∧ ((a5.toInt = 1) → (post r21.toInt32 t18)) ∧ ((a5.toInt = 2) → (wp_X9_turnX r19 r21 r23 (fun r28 => post r28.toInt32 t18))))))))))))) ∧ ((r10 = 0) → (post (-100000002) st))))))))))) ∧ ((r1 = 0) → (post (-100000001) st)))
set_option maxHeartbeats 4000000 in
set_option maxRecDepth 100000 in
theorem c_X10_ball (l : Launch) (D : va_G) (cy : Nat → ClassId) (tz : Nat → Nat) (ad : Nat → Nat) (st : St) (a1 : Int32) (a2 : Int32) (a3 : Int32) (a4 : Int32) (a5 : Int32) (post : Int32 → St → Prop) (h : wp_X10_ball st a1 a2 a3 a4 a5 post) : CtI l D cy tz yX10_ball ws_X10_ball rm_X10_ball [.ref (ad 0), .int a1, .int a2, .int a3, .int a4, .int a5] (wX cy ad st) (wX cy ad) post := by
  refine CtI.of (own := RX10) (nm := "ball") (lv := [(0, .ref (ad 0)), (1, .int a1), (2, .int a2), (3, .int a3), (4, .int a4), (5, .int a5)]) (plainFor_of_name (by decide)) rfl rfl (Nat.le_of_ble_eq_true rfl) rfl ?_
  intro p e s m args below meth c A Q ls B hP hD hS hl hret
  obtain ⟨hx, hb, hml, hown, hts, hK, hZ, hA, hnm⟩ := B
  have SF : CallFix p m c cX10_ball 11 s args wsL_law RX10 := ⟨hx, hb, hml, hown, hts⟩
  unfold wp_X10_ball at h
  refine lv_aload_n hx hb dX10_ball_0 rfl (lv_at hl 0 rfl) ?_
  refine va_get (D := D) (ci := 9) (v := .ref (ad 3)) (C := RX10) (T := TX10) (N := 8) hx hb hts inlX10 hown hK hP 0 rfl rfl 1 (by decide) (hts _ w_1_19) (fun _ h9 => h9) rfl dX10_ball_1 ?_
  refine lv_iload_n hx hb dX10_ball_4 rfl (lv_at hl 1 rfl) ?_
  refine callVIr (rest := []) SF (c_X7_hasOne l D cy tz ad st a1 _ h) (cw_RX10_125 hts ⟨Nat.le_of_ble_eq_true rfl, Nat.le_of_ble_eq_true rfl⟩) rfl rfl (va_recv hK hP (ci := 7) (q0 := 3) rfl rfl) hK hZ hA hP hD hS rfl hl.1 rfl (Nat.le_of_ble_eq_true rfl) dX10_ball_5 ⟨Nat.zero_le _, Nat.zero_le _⟩ (fun r1 H locs h hP hD hS => ?_)
  refine lv_if_ne (tgt := 14) hx hb dX10_ball_8 (by decide) (fun c3 => ?_) (fun c3 => ?_)
  · have h := h.1 c3
    refine lv_iload_n hx hb dX10_ball_14 rfl (lv_at hl 2 rfl) ?_
    refine lv_iload_n hx hb dX10_ball_15 rfl (lv_at hl 3 rfl) ?_
    refine callSIr (rest := []) SF (c_X10_isThrow l D cy tz _ a2 a3 _ h) (cw_RX10_149 hts ⟨Nat.le_of_ble_eq_true rfl, Nat.le_of_ble_eq_true rfl⟩) rfl rfl hK hZ hA hP hD hS rfl hl.1 rfl (Nat.le_of_ble_eq_true rfl) dX10_ball_16 ⟨Nat.zero_le _, Nat.zero_le _⟩ (fun r4 H locs h hP hD hS => ?_)
    refine lv_if_eq (tgt := 40) hx hb dX10_ball_19 (by decide) (fun c6 => ?_) (fun c6 => ?_)
    · have h := h.1 c6
      refine lv_ldc (v := (-100000002)) hx hb hown (hts _ w_14_19) dX10_ball_40 ?_
      exact hret _ _ _ _ _ _ rfl h hP hD hS dX10_ball_42
    · have h := h.2 c6
      refine lv_iload hx hb dX10_ball_22 (lv_at hl 4 rfl) ?_
      refine callSIr (rest := []) SF (c_X10_isTick l D cy tz _ a4 _ h) (cw_RX10_99 hts ⟨Nat.le_of_ble_eq_true rfl, Nat.le_of_ble_eq_true rfl⟩) rfl rfl hK hZ hA hP hD hS rfl hl.1 rfl (Nat.le_of_ble_eq_true rfl) dX10_ball_24 ⟨Nat.zero_le _, Nat.zero_le _⟩ (fun r7 H locs h hP hD hS => ?_)
      refine lv_if_eq (tgt := 40) hx hb dX10_ball_27 (by decide) (fun c9 => ?_) (fun c9 => ?_)
      · have h := h.1 c9
        refine lv_ldc (v := (-100000002)) hx hb hown (hts _ w_14_19) dX10_ball_40 ?_
        exact hret _ _ _ _ _ _ rfl h hP hD hS dX10_ball_42
      · have h := h.2 c9
        refine lv_iload hx hb dX10_ball_30 (lv_at hl 5 rfl) ?_
        refine lv_iconst (v := 0) hx hb dX10_ball_32 (by decide) ?_
        refine lv_iconst (v := 3) hx hb dX10_ball_33 (by decide) ?_
        refine callSIr (rest := []) SF (c_X10_within l D cy tz _ a5 0 3 _ h) (cw_RX10_70 hts ⟨Nat.le_of_ble_eq_true rfl, Nat.le_of_ble_eq_true rfl⟩) rfl rfl hK hZ hA hP hD hS rfl hl.1 rfl (Nat.le_of_ble_eq_true rfl) dX10_ball_34 ⟨Nat.zero_le _, Nat.zero_le _⟩ (fun r10 H locs h hP hD hS => ?_)
        refine lv_if_ne (tgt := 43) hx hb dX10_ball_37 (by decide) (fun c12 => ?_) (fun c12 => ?_)
        · have h := h.1 c12
          refine lv_aload_n hx hb dX10_ball_43 rfl (lv_at hl 0 rfl) ?_
          refine va_get (D := D) (ci := 9) (v := .ref (ad 13)) (C := RX10) (T := TX10) (N := 8) hx hb hts inlX10 hown hK hP 0 rfl rfl 3 (by decide) (hts _ w_2_0) (fun _ h9 => h9) rfl dX10_ball_44 ?_
          refine lv_aload_n hx hb dX10_ball_47 rfl (lv_at hl 0 rfl) ?_
          refine va_get (D := D) (ci := 9) (v := .ref (ad 3)) (C := RX10) (T := TX10) (N := 8) hx hb hts inlX10 hown hK hP 0 rfl rfl 1 (by decide) (hts _ w_1_19) (fun _ h9 => h9) rfl dX10_ball_48 ?_
          refine lv_aload_n hx hb dX10_ball_51 rfl (lv_at hl 0 rfl) ?_
          refine va_get (D := D) (ci := 9) (v := .ref (ad 3)) (C := RX10) (T := TX10) (N := 8) hx hb hts inlX10 hown hK hP 0 rfl rfl 1 (by decide) (hts _ w_1_19) (fun _ h9 => h9) rfl dX10_ball_52 ?_
          refine callVIr (rest := [.ref (ad 3), .ref (ad 13)]) SF (c_X7_pace l D cy tz ad st _ h) (cw_RX10_102 hts ⟨Nat.le_of_ble_eq_true rfl, Nat.le_of_ble_eq_true rfl⟩) rfl rfl (va_recv hK hP (ci := 7) (q0 := 3) rfl rfl) hK hZ hA hP hD hS rfl hl.1 rfl (Nat.le_of_ble_eq_true rfl) dX10_ball_55 ⟨Nat.zero_le _, Nat.zero_le _⟩ (fun r13 H locs h hP hD hS => ?_)
          refine callVV (rest := []) SF (c_X5_run l D cy tz ad st r13 _ h) (cw_RX10_105 hts ⟨Nat.le_of_ble_eq_true rfl, Nat.le_of_ble_eq_true rfl⟩) rfl rfl (va_recv hK hP (ci := 5) (q0 := 13) rfl rfl) hK hZ hA hP hD hS rfl hl.1 rfl (Nat.le_of_ble_eq_true rfl) dX10_ball_58 ⟨Nat.zero_le _, Nat.zero_le _⟩ (fun t16 H locs h hP hD hS => ?_)
          refine lv_aload_n hx hb dX10_ball_61 rfl (lv_at hl 0 rfl) ?_
          refine va_get (D := D) (ci := 9) (v := .ref (ad 16)) (C := RX10) (T := TX10) (N := 8) hx hb hts inlX10 hown hK hP 0 rfl rfl 4 (by decide) (hts _ w_2_4) (fun _ h9 => h9) rfl dX10_ball_62 ?_
          refine lv_aload_n hx hb dX10_ball_65 rfl (lv_at hl 0 rfl) ?_
          refine va_get (D := D) (ci := 9) (v := .ref (ad 3)) (C := RX10) (T := TX10) (N := 8) hx hb hts inlX10 hown hK hP 0 rfl rfl 1 (by decide) (hts _ w_1_19) (fun _ h9 => h9) rfl dX10_ball_66 ?_
          refine va_get (D := D) (ci := 7) (v := .ref (ad 11)) (C := RX7) (T := TX7) (N := 6) hx hb hts inlX7 hown hK hP 3 rfl rfl 3 (by decide) (hts _ w_14_20) (fun _ h9 => h9) rfl dX10_ball_69 ?_
          refine lv_iload_n hx hb dX10_ball_72 rfl (lv_at hl 1 rfl) ?_
          refine va_iald (f := gA t16 6) (n := 8) hx hb hK hP 11 0 rfl rfl h.1 dX10_ball_73 ?_
          have h := h.2
          refine lv_aload_n hx hb dX10_ball_74 rfl (lv_at hl 0 rfl) ?_
          refine va_get (D := D) (ci := 9) (v := .ref (ad 3)) (C := RX10) (T := TX10) (N := 8) hx hb hts inlX10 hown hK hP 0 rfl rfl 1 (by decide) (hts _ w_1_19) (fun _ h9 => h9) rfl dX10_ball_75 ?_
          refine va_get (D := D) (ci := 7) (v := .ref (ad 12)) (C := RX7) (T := TX7) (N := 6) hx hb hts inlX7 hown hK hP 3 rfl rfl 4 (by decide) (hts _ w_14_21) (fun _ h9 => h9) rfl dX10_ball_78 ?_
          refine lv_iload_n hx hb dX10_ball_81 rfl (lv_at hl 1 rfl) ?_
          refine va_iald (f := gA t16 7) (n := 8) hx hb hK hP 12 0 rfl rfl h.1 dX10_ball_82 ?_
          have h := h.2
          refine lv_iload_n hx hb dX10_ball_83 rfl (lv_at hl 2 rfl) ?_
          refine lv_iload_n hx hb dX10_ball_84 rfl (lv_at hl 3 rfl) ?_
          refine lv_aload_n hx hb dX10_ball_85 rfl (lv_at hl 0 rfl) ?_
          refine va_get (D := D) (ci := 9) (v := .ref (ad 13)) (C := RX10) (T := TX10) (N := 8) hx hb hts inlX10 hown hK hP 0 rfl rfl 3 (by decide) (hts _ w_2_0) (fun _ h9 => h9) rfl dX10_ball_86 ?_
          refine callVV (rest := []) SF (c_X0_launch l D cy tz ad t16 (gA t16 6 a1.toNatClampNeg) (gA t16 7 a1.toNatClampNeg) a2 a3 _ h) (cw_RX10_152 hts ⟨Nat.le_of_ble_eq_true rfl, Nat.le_of_ble_eq_true rfl⟩) rfl rfl (va_recv hK hP (ci := 0) (q0 := 16) rfl rfl) hK hZ hA hP hD hS rfl hl.1 rfl (Nat.le_of_ble_eq_true rfl) dX10_ball_89 ⟨Nat.zero_le _, Nat.zero_le _⟩ (fun t18 H locs h hP hD hS => ?_)
          refine lv_aload_n hx hb dX10_ball_92 rfl (lv_at hl 0 rfl) ?_
          refine va_get (D := D) (ci := 9) (v := .ref (ad 16)) (C := RX10) (T := TX10) (N := 8) hx hb hts inlX10 hown hK hP 0 rfl rfl 4 (by decide) (hts _ w_2_4) (fun _ h9 => h9) rfl dX10_ball_93 ?_
          refine lv_iload hx hb dX10_ball_96 (lv_at hl 4 rfl) ?_
          refine callVLr (rest := []) SF (c_X0_xBehind l D cy tz ad t18 a4 _ h) (cw_RX10_156 hts ⟨Nat.le_of_ble_eq_true rfl, Nat.le_of_ble_eq_true rfl⟩) rfl rfl (va_recv hK hP (ci := 0) (q0 := 16) rfl rfl) hK hZ hA hP hD hS rfl hl.1 rfl (Nat.le_of_ble_eq_true rfl) dX10_ball_98 ⟨Nat.zero_le _, Nat.zero_le _⟩ (fun r19 H locs h hP hD hS => ?_)
          refine lv_lstore (lv' := [(6, .long r19), (0, .ref (ad 0)), (1, .int a1), (2, .int a2), (3, .int a3), (4, .int a4), (5, .int a5)]) hx hb dX10_ball_101 hl (by decide) rfl (fun ls hl => ?_)
          refine lv_aload_n hx hb dX10_ball_103 rfl (lv_at hl 1 rfl) ?_
          refine va_get (D := D) (ci := 9) (v := .ref (ad 16)) (C := RX10) (T := TX10) (N := 8) hx hb hts inlX10 hown hK hP 0 rfl rfl 4 (by decide) (hts _ w_2_4) (fun _ h9 => h9) rfl dX10_ball_104 ?_
          refine lv_iload hx hb dX10_ball_107 (lv_at hl 5 rfl) ?_
          refine callVLr (rest := []) SF (c_X0_yBehind l D cy tz ad t18 a4 _ h) (cw_RX10_160 hts ⟨Nat.le_of_ble_eq_true rfl, Nat.le_of_ble_eq_true rfl⟩) rfl rfl (va_recv hK hP (ci := 0) (q0 := 16) rfl rfl) hK hZ hA hP hD hS rfl hl.1 rfl (Nat.le_of_ble_eq_true rfl) dX10_ball_109 ⟨Nat.zero_le _, Nat.zero_le _⟩ (fun r21 H locs h hP hD hS => ?_)
          refine lv_lstore (lv' := [(8, .long r21), (6, .long r19), (0, .ref (ad 0)), (1, .int a1), (2, .int a2), (3, .int a3), (4, .int a4), (5, .int a5)]) hx hb dX10_ball_112 hl (by decide) rfl (fun ls hl => ?_)
          refine lv_aload_n hx hb dX10_ball_114 rfl (lv_at hl 2 rfl) ?_
          refine va_get (D := D) (ci := 9) (v := .ref (ad 13)) (C := RX10) (T := TX10) (N := 8) hx hb hts inlX10 hown hK hP 0 rfl rfl 3 (by decide) (hts _ w_2_0) (fun _ h9 => h9) rfl dX10_ball_115 ?_
          refine lv_iload hx hb dX10_ball_118 (lv_at hl 6 rfl) ?_
          refine callVIr (rest := []) SF (c_X5_wayBack l D cy tz ad t18 a4 _ h) (cw_RX10_163 hts ⟨Nat.le_of_ble_eq_true rfl, Nat.le_of_ble_eq_true rfl⟩) rfl rfl (va_recv hK hP (ci := 5) (q0 := 13) rfl rfl) hK hZ hA hP hD hS rfl hl.1 rfl (Nat.le_of_ble_eq_true rfl) dX10_ball_120 ⟨Nat.zero_le _, Nat.zero_le _⟩ (fun r23 H locs h hP hD hS => ?_)
          refine lv_istore (lv' := [(10, .int r23), (8, .long r21), (6, .long r19), (0, .ref (ad 0)), (1, .int a1), (2, .int a2), (3, .int a3), (4, .int a4), (5, .int a5)]) hx hb dX10_ball_123 hl (by decide) rfl (fun ls hl => ?_)
          refine lv_iload hx hb dX10_ball_125 (lv_at hl 8 rfl) ?_
          rcases (show ((a5.toInt < 0 ∨ 2 < a5.toInt) ∨ a5.toInt = 0 ∨ a5.toInt = 1 ∨ a5.toInt = 2) by omega) with c25 | c25 | c25 | c25
          · have h := h.1 c25
            refine lv_tableOut (tgt := 171) hx hb dX10_ball_127 c25 (by decide) ?_
            refine lv_lload hx hb dX10_ball_171 (lv_at hl 2 rfl) ?_
            refine lv_lload hx hb dX10_ball_173 (lv_at hl 1 rfl) ?_
            refine lv_iload hx hb dX10_ball_175 (lv_at hl 0 rfl) ?_
            refine callSLr (rest := []) SF (c_X9_turnY l D cy tz _ r19 r21 r23 _ h) (cw_RX10_146 hts ⟨Nat.le_of_ble_eq_true rfl, Nat.le_of_ble_eq_true rfl⟩) rfl rfl hK hZ hA hP hD hS rfl hl.1 rfl (Nat.le_of_ble_eq_true rfl) dX10_ball_177 ⟨Nat.zero_le _, Nat.zero_le _⟩ (fun r26 H locs h hP hD hS => ?_)
            refine lv_l2i (v := r26.toInt32) hx hb dX10_ball_180 rfl ?_
            exact hret _ _ _ _ _ _ rfl h hP hD hS dX10_ball_181
          · have h := h.2.1 c25
            refine lv_tableIn (off := 25) (tgt := 152) hx hb dX10_ball_127 (by omega) (by omega) (by rw [c25]; rfl) (by decide) ?_
            refine lv_lload hx hb dX10_ball_152 (lv_at hl 2 rfl) ?_
            refine lv_l2i (v := r19.toInt32) hx hb dX10_ball_154 rfl ?_
            exact hret _ _ _ _ _ _ rfl h hP hD hS dX10_ball_155
          · have h := h.2.2.1 c25
            refine lv_tableIn (off := 29) (tgt := 156) hx hb dX10_ball_127 (by omega) (by omega) (by rw [c25]; rfl) (by decide) ?_
            refine lv_lload hx hb dX10_ball_156 (lv_at hl 1 rfl) ?_
            refine lv_l2i (v := r21.toInt32) hx hb dX10_ball_158 rfl ?_
            exact hret _ _ _ _ _ _ rfl h hP hD hS dX10_ball_159
          · have h := h.2.2.2 c25
            refine lv_tableIn (off := 33) (tgt := 160) hx hb dX10_ball_127 (by omega) (by omega) (by rw [c25]; rfl) (by decide) ?_
            refine lv_lload hx hb dX10_ball_160 (lv_at hl 2 rfl) ?_
            refine lv_lload hx hb dX10_ball_162 (lv_at hl 1 rfl) ?_
            refine lv_iload hx hb dX10_ball_164 (lv_at hl 0 rfl) ?_
            refine callSLr (rest := []) SF (c_X9_turnX l D cy tz _ r19 r21 r23 _ h) (cw_RX10_140 hts ⟨Nat.le_of_ble_eq_true rfl, Nat.le_of_ble_eq_true rfl⟩) rfl rfl hK hZ hA hP hD hS rfl hl.1 rfl (Nat.le_of_ble_eq_true rfl) dX10_ball_166 ⟨Nat.zero_le _, Nat.zero_le _⟩ (fun r28 H locs h hP hD hS => ?_)
            refine lv_l2i (v := r28.toInt32) hx hb dX10_ball_169 rfl ?_
            exact hret _ _ _ _ _ _ rfl h hP hD hS dX10_ball_170
        · have h := h.2 c12
          refine lv_ldc (v := (-100000002)) hx hb hown (hts _ w_14_19) dX10_ball_40 ?_
          exact hret _ _ _ _ _ _ rfl h hP hD hS dX10_ball_42
  · have h := h.2 c3
    refine lv_ldc (v := (-100000001)) hx hb hown (hts _ w_14_18) dX10_ball_11 ?_
    exact hret _ _ _ _ _ _ rfl h hP hD hS dX10_ball_13
-- X10_caught
def rm_X10_caught : Room := { frames := 5, cells := 0, slots := 0, locals := 114 }
abbrev ws_X10_caught : List Cond := .code yX10_caught cX10_caught 5 (some .int) :: wsL_law
theorem cw_RX10_166 {R : Room} {s : State} {args : Array Value} (hts : ∀ w ∈ wsL_law, w.before args s = true) (hR : rm_X8_followSeat.frames + 1 ≤ R.frames ∧ 8 + (6 + 11) + rm_X8_followSeat.locals ≤ R.locals) : CallW R s args RX10 RX8 166 yX8_followSeat cX8_followSeat 6 none ws_X8_followSeat rm_X8_followSeat rm_X8_followSeat.cells rm_X8_followSeat.slots 3 := cwV 3 hts (gdV w_19_3 w_19_4 w_19_5 w_2_7 w_19_6) rfl rfl rfl (by decide +kernel) hR
theorem cw_RX10_170 {R : Room} {s : State} {args : Array Value} (hts : ∀ w ∈ wsL_law, w.before args s = true) (hR : rm_X7_reach.frames + 1 ≤ R.frames ∧ 8 + (1 + 11) + rm_X7_reach.locals ≤ R.locals) : CallW R s args RX10 RX7 170 yX7_reach cX7_reach 1 (some .int) ws_X7_reach rm_X7_reach rm_X7_reach.cells rm_X7_reach.slots 0 := cwV 0 hts (gdV w_19_10 w_19_11 w_19_12 w_1_18 w_19_13) rfl rfl rfl (by decide +kernel) hR
theorem cw_RX10_173 {R : Room} {s : State} {args : Array Value} (hts : ∀ w ∈ wsL_law, w.before args s = true) (hR : rm_X0_tickCaught.frames + 1 ≤ R.frames ∧ 8 + (4 + 11) + rm_X0_tickCaught.locals ≤ R.locals) : CallW R s args RX10 RX0 173 yX0_tickCaught cX0_tickCaught 4 (some .int) ws_X0_tickCaught rm_X0_tickCaught rm_X0_tickCaught.cells rm_X0_tickCaught.slots 2 := cwV 2 hts (gdV w_19_14 w_19_15 w_19_16 w_2_3 w_19_17) rfl rfl rfl (by decide +kernel) hR
def wp_X10_caught (st : St) (a1 : Int32) (a2 : Int32) (a3 : Int32) (a4 : Int32) (post : Int32 → St → Prop) : Prop := wp_X7_hasOne st a1 (fun r1 => ((r1 = 0) → (post (-1) st)) ∧ ((¬ r1 = 0) → (wp_X7_hasOne st a4 (fun r4 => ((¬ r4 = 0) → (wp_X10_isThrow a2 a3 (fun r7 => ((¬ r7 = 0) → (wp_X7_pace st (fun r10 => wp_X5_run st r10 (fun t13 => vp_in a4 8 ∧ (vp_in a4 8 ∧ (wp_X8_followSeat t13 (gA t13 6 a4.toNatClampNeg) (gA t13 7 a4.toNatClampNeg) (fun t15 => vp_in a1 8 ∧ (vp_in a1 8 ∧ (wp_X0_launch t15 (gA t15 6 a1.toNatClampNeg) (gA t15 7 a1.toNatClampNeg) a2 a3 (fun t17 => wp_X7_reach t17 (fun r18 => wp_X0_tickCaught t17 r18 (fun r20 => post r20 t17)))))))))))) ∧ ((r7 = 0) → (post (-2) st))))) ∧ ((r4 = 0) → (post (-1) st))))))
set_option maxHeartbeats 4000000 in
set_option maxRecDepth 100000 in
theorem c_X10_caught (l : Launch) (D : va_G) (cy : Nat → ClassId) (tz : Nat → Nat) (ad : Nat → Nat) (st : St) (a1 : Int32) (a2 : Int32) (a3 : Int32) (a4 : Int32) (post : Int32 → St → Prop) (h : wp_X10_caught st a1 a2 a3 a4 post) : CtI l D cy tz yX10_caught ws_X10_caught rm_X10_caught [.ref (ad 0), .int a1, .int a2, .int a3, .int a4] (wX cy ad st) (wX cy ad) post := by
  refine CtI.of (own := RX10) (nm := "caught") (lv := [(0, .ref (ad 0)), (1, .int a1), (2, .int a2), (3, .int a3), (4, .int a4)]) (plainFor_of_name (by decide)) rfl rfl (Nat.le_of_ble_eq_true rfl) rfl ?_
  intro p e s m args below meth c A Q ls B hP hD hS hl hret
  obtain ⟨hx, hb, hml, hown, hts, hK, hZ, hA, hnm⟩ := B
  have SF : CallFix p m c cX10_caught 5 s args wsL_law RX10 := ⟨hx, hb, hml, hown, hts⟩
  unfold wp_X10_caught at h
  refine lv_aload_n hx hb dX10_caught_0 rfl (lv_at hl 0 rfl) ?_
  refine va_get (D := D) (ci := 9) (v := .ref (ad 3)) (C := RX10) (T := TX10) (N := 8) hx hb hts inlX10 hown hK hP 0 rfl rfl 1 (by decide) (hts _ w_1_19) (fun _ h9 => h9) rfl dX10_caught_1 ?_
  refine lv_iload_n hx hb dX10_caught_4 rfl (lv_at hl 1 rfl) ?_
  refine callVIr (rest := []) SF (c_X7_hasOne l D cy tz ad st a1 _ h) (cw_RX10_125 hts ⟨Nat.le_of_ble_eq_true rfl, Nat.le_of_ble_eq_true rfl⟩) rfl rfl (va_recv hK hP (ci := 7) (q0 := 3) rfl rfl) hK hZ hA hP hD hS rfl hl.1 rfl (Nat.le_of_ble_eq_true rfl) dX10_caught_5 ⟨Nat.zero_le _, Nat.zero_le _⟩ (fun r1 H locs h hP hD hS => ?_)
  refine lv_if_eq (tgt := 23) hx hb dX10_caught_8 (by decide) (fun c3 => ?_) (fun c3 => ?_)
  · have h := h.1 c3
    refine lv_iconst (v := (-1)) hx hb dX10_caught_23 (by decide) ?_
    exact hret _ _ _ _ _ _ rfl h hP hD hS dX10_caught_24
  · have h := h.2 c3
    refine lv_aload_n hx hb dX10_caught_11 rfl (lv_at hl 0 rfl) ?_
    refine va_get (D := D) (ci := 9) (v := .ref (ad 3)) (C := RX10) (T := TX10) (N := 8) hx hb hts inlX10 hown hK hP 0 rfl rfl 1 (by decide) (hts _ w_1_19) (fun _ h9 => h9) rfl dX10_caught_12 ?_
    refine lv_iload hx hb dX10_caught_15 (lv_at hl 4 rfl) ?_
    refine callVIr (rest := []) SF (c_X7_hasOne l D cy tz ad st a4 _ h) (cw_RX10_125 hts ⟨Nat.le_of_ble_eq_true rfl, Nat.le_of_ble_eq_true rfl⟩) rfl rfl (va_recv hK hP (ci := 7) (q0 := 3) rfl rfl) hK hZ hA hP hD hS rfl hl.1 rfl (Nat.le_of_ble_eq_true rfl) dX10_caught_17 ⟨Nat.zero_le _, Nat.zero_le _⟩ (fun r4 H locs h hP hD hS => ?_)
    refine lv_if_ne (tgt := 25) hx hb dX10_caught_20 (by decide) (fun c6 => ?_) (fun c6 => ?_)
    · have h := h.1 c6
      refine lv_iload_n hx hb dX10_caught_25 rfl (lv_at hl 2 rfl) ?_
      refine lv_iload_n hx hb dX10_caught_26 rfl (lv_at hl 3 rfl) ?_
      refine callSIr (rest := []) SF (c_X10_isThrow l D cy tz _ a2 a3 _ h) (cw_RX10_149 hts ⟨Nat.le_of_ble_eq_true rfl, Nat.le_of_ble_eq_true rfl⟩) rfl rfl hK hZ hA hP hD hS rfl hl.1 rfl (Nat.le_of_ble_eq_true rfl) dX10_caught_27 ⟨Nat.zero_le _, Nat.zero_le _⟩ (fun r7 H locs h hP hD hS => ?_)
      refine lv_if_ne (tgt := 36) hx hb dX10_caught_30 (by decide) (fun c9 => ?_) (fun c9 => ?_)
      · have h := h.1 c9
        refine lv_aload_n hx hb dX10_caught_36 rfl (lv_at hl 0 rfl) ?_
        refine va_get (D := D) (ci := 9) (v := .ref (ad 13)) (C := RX10) (T := TX10) (N := 8) hx hb hts inlX10 hown hK hP 0 rfl rfl 3 (by decide) (hts _ w_2_0) (fun _ h9 => h9) rfl dX10_caught_37 ?_
        refine lv_aload_n hx hb dX10_caught_40 rfl (lv_at hl 0 rfl) ?_
        refine va_get (D := D) (ci := 9) (v := .ref (ad 3)) (C := RX10) (T := TX10) (N := 8) hx hb hts inlX10 hown hK hP 0 rfl rfl 1 (by decide) (hts _ w_1_19) (fun _ h9 => h9) rfl dX10_caught_41 ?_
        refine lv_aload_n hx hb dX10_caught_44 rfl (lv_at hl 0 rfl) ?_
        refine va_get (D := D) (ci := 9) (v := .ref (ad 3)) (C := RX10) (T := TX10) (N := 8) hx hb hts inlX10 hown hK hP 0 rfl rfl 1 (by decide) (hts _ w_1_19) (fun _ h9 => h9) rfl dX10_caught_45 ?_
        refine callVIr (rest := [.ref (ad 3), .ref (ad 13)]) SF (c_X7_pace l D cy tz ad st _ h) (cw_RX10_102 hts ⟨Nat.le_of_ble_eq_true rfl, Nat.le_of_ble_eq_true rfl⟩) rfl rfl (va_recv hK hP (ci := 7) (q0 := 3) rfl rfl) hK hZ hA hP hD hS rfl hl.1 rfl (Nat.le_of_ble_eq_true rfl) dX10_caught_48 ⟨Nat.zero_le _, Nat.zero_le _⟩ (fun r10 H locs h hP hD hS => ?_)
        refine callVV (rest := []) SF (c_X5_run l D cy tz ad st r10 _ h) (cw_RX10_105 hts ⟨Nat.le_of_ble_eq_true rfl, Nat.le_of_ble_eq_true rfl⟩) rfl rfl (va_recv hK hP (ci := 5) (q0 := 13) rfl rfl) hK hZ hA hP hD hS rfl hl.1 rfl (Nat.le_of_ble_eq_true rfl) dX10_caught_51 ⟨Nat.zero_le _, Nat.zero_le _⟩ (fun t13 H locs h hP hD hS => ?_)
        refine lv_aload_n hx hb dX10_caught_54 rfl (lv_at hl 0 rfl) ?_
        refine va_get (D := D) (ci := 9) (v := .ref (ad 17)) (C := RX10) (T := TX10) (N := 8) hx hb hts inlX10 hown hK hP 0 rfl rfl 5 (by decide) (hts _ w_2_8) (fun _ h9 => h9) rfl dX10_caught_55 ?_
        refine lv_aload_n hx hb dX10_caught_58 rfl (lv_at hl 0 rfl) ?_
        refine va_get (D := D) (ci := 9) (v := .ref (ad 3)) (C := RX10) (T := TX10) (N := 8) hx hb hts inlX10 hown hK hP 0 rfl rfl 1 (by decide) (hts _ w_1_19) (fun _ h9 => h9) rfl dX10_caught_59 ?_
        refine va_get (D := D) (ci := 7) (v := .ref (ad 11)) (C := RX7) (T := TX7) (N := 6) hx hb hts inlX7 hown hK hP 3 rfl rfl 3 (by decide) (hts _ w_14_20) (fun _ h9 => h9) rfl dX10_caught_62 ?_
        refine lv_iload hx hb dX10_caught_65 (lv_at hl 4 rfl) ?_
        refine va_iald (f := gA t13 6) (n := 8) hx hb hK hP 11 0 rfl rfl h.1 dX10_caught_67 ?_
        have h := h.2
        refine lv_aload_n hx hb dX10_caught_68 rfl (lv_at hl 0 rfl) ?_
        refine va_get (D := D) (ci := 9) (v := .ref (ad 3)) (C := RX10) (T := TX10) (N := 8) hx hb hts inlX10 hown hK hP 0 rfl rfl 1 (by decide) (hts _ w_1_19) (fun _ h9 => h9) rfl dX10_caught_69 ?_
        refine va_get (D := D) (ci := 7) (v := .ref (ad 12)) (C := RX7) (T := TX7) (N := 6) hx hb hts inlX7 hown hK hP 3 rfl rfl 4 (by decide) (hts _ w_14_21) (fun _ h9 => h9) rfl dX10_caught_72 ?_
        refine lv_iload hx hb dX10_caught_75 (lv_at hl 4 rfl) ?_
        refine va_iald (f := gA t13 7) (n := 8) hx hb hK hP 12 0 rfl rfl h.1 dX10_caught_77 ?_
        have h := h.2
        refine lv_aload_n hx hb dX10_caught_78 rfl (lv_at hl 0 rfl) ?_
        refine va_get (D := D) (ci := 9) (v := .ref (ad 13)) (C := RX10) (T := TX10) (N := 8) hx hb hts inlX10 hown hK hP 0 rfl rfl 3 (by decide) (hts _ w_2_0) (fun _ h9 => h9) rfl dX10_caught_79 ?_
        refine callVV (rest := []) SF (c_X8_followSeat l D cy tz ad t13 (gA t13 6 a4.toNatClampNeg) (gA t13 7 a4.toNatClampNeg) _ h) (cw_RX10_166 hts ⟨Nat.le_of_ble_eq_true rfl, Nat.le_of_ble_eq_true rfl⟩) rfl rfl (va_recv hK hP (ci := 8) (q0 := 17) rfl rfl) hK hZ hA hP hD hS rfl hl.1 rfl (Nat.le_of_ble_eq_true rfl) dX10_caught_82 ⟨Nat.zero_le _, Nat.zero_le _⟩ (fun t15 H locs h hP hD hS => ?_)
        refine lv_aload_n hx hb dX10_caught_85 rfl (lv_at hl 0 rfl) ?_
        refine va_get (D := D) (ci := 9) (v := .ref (ad 16)) (C := RX10) (T := TX10) (N := 8) hx hb hts inlX10 hown hK hP 0 rfl rfl 4 (by decide) (hts _ w_2_4) (fun _ h9 => h9) rfl dX10_caught_86 ?_
        refine lv_aload_n hx hb dX10_caught_89 rfl (lv_at hl 0 rfl) ?_
        refine va_get (D := D) (ci := 9) (v := .ref (ad 3)) (C := RX10) (T := TX10) (N := 8) hx hb hts inlX10 hown hK hP 0 rfl rfl 1 (by decide) (hts _ w_1_19) (fun _ h9 => h9) rfl dX10_caught_90 ?_
        refine va_get (D := D) (ci := 7) (v := .ref (ad 11)) (C := RX7) (T := TX7) (N := 6) hx hb hts inlX7 hown hK hP 3 rfl rfl 3 (by decide) (hts _ w_14_20) (fun _ h9 => h9) rfl dX10_caught_93 ?_
        refine lv_iload_n hx hb dX10_caught_96 rfl (lv_at hl 1 rfl) ?_
        refine va_iald (f := gA t15 6) (n := 8) hx hb hK hP 11 0 rfl rfl h.1 dX10_caught_97 ?_
        have h := h.2
        refine lv_aload_n hx hb dX10_caught_98 rfl (lv_at hl 0 rfl) ?_
        refine va_get (D := D) (ci := 9) (v := .ref (ad 3)) (C := RX10) (T := TX10) (N := 8) hx hb hts inlX10 hown hK hP 0 rfl rfl 1 (by decide) (hts _ w_1_19) (fun _ h9 => h9) rfl dX10_caught_99 ?_
        refine va_get (D := D) (ci := 7) (v := .ref (ad 12)) (C := RX7) (T := TX7) (N := 6) hx hb hts inlX7 hown hK hP 3 rfl rfl 4 (by decide) (hts _ w_14_21) (fun _ h9 => h9) rfl dX10_caught_102 ?_
        refine lv_iload_n hx hb dX10_caught_105 rfl (lv_at hl 1 rfl) ?_
        refine va_iald (f := gA t15 7) (n := 8) hx hb hK hP 12 0 rfl rfl h.1 dX10_caught_106 ?_
        have h := h.2
        refine lv_iload_n hx hb dX10_caught_107 rfl (lv_at hl 2 rfl) ?_
        refine lv_iload_n hx hb dX10_caught_108 rfl (lv_at hl 3 rfl) ?_
        refine lv_aload_n hx hb dX10_caught_109 rfl (lv_at hl 0 rfl) ?_
        refine va_get (D := D) (ci := 9) (v := .ref (ad 13)) (C := RX10) (T := TX10) (N := 8) hx hb hts inlX10 hown hK hP 0 rfl rfl 3 (by decide) (hts _ w_2_0) (fun _ h9 => h9) rfl dX10_caught_110 ?_
        refine callVV (rest := []) SF (c_X0_launch l D cy tz ad t15 (gA t15 6 a1.toNatClampNeg) (gA t15 7 a1.toNatClampNeg) a2 a3 _ h) (cw_RX10_152 hts ⟨Nat.le_of_ble_eq_true rfl, Nat.le_of_ble_eq_true rfl⟩) rfl rfl (va_recv hK hP (ci := 0) (q0 := 16) rfl rfl) hK hZ hA hP hD hS rfl hl.1 rfl (Nat.le_of_ble_eq_true rfl) dX10_caught_113 ⟨Nat.zero_le _, Nat.zero_le _⟩ (fun t17 H locs h hP hD hS => ?_)
        refine lv_aload_n hx hb dX10_caught_116 rfl (lv_at hl 0 rfl) ?_
        refine va_get (D := D) (ci := 9) (v := .ref (ad 16)) (C := RX10) (T := TX10) (N := 8) hx hb hts inlX10 hown hK hP 0 rfl rfl 4 (by decide) (hts _ w_2_4) (fun _ h9 => h9) rfl dX10_caught_117 ?_
        refine lv_aload_n hx hb dX10_caught_120 rfl (lv_at hl 0 rfl) ?_
        refine va_get (D := D) (ci := 9) (v := .ref (ad 17)) (C := RX10) (T := TX10) (N := 8) hx hb hts inlX10 hown hK hP 0 rfl rfl 5 (by decide) (hts _ w_2_8) (fun _ h9 => h9) rfl dX10_caught_121 ?_
        refine lv_aload_n hx hb dX10_caught_124 rfl (lv_at hl 0 rfl) ?_
        refine va_get (D := D) (ci := 9) (v := .ref (ad 3)) (C := RX10) (T := TX10) (N := 8) hx hb hts inlX10 hown hK hP 0 rfl rfl 1 (by decide) (hts _ w_1_19) (fun _ h9 => h9) rfl dX10_caught_125 ?_
        refine callVIr (rest := [.ref (ad 17), .ref (ad 16)]) SF (c_X7_reach l D cy tz ad t17 _ h) (cw_RX10_170 hts ⟨Nat.le_of_ble_eq_true rfl, Nat.le_of_ble_eq_true rfl⟩) rfl rfl (va_recv hK hP (ci := 7) (q0 := 3) rfl rfl) hK hZ hA hP hD hS rfl hl.1 rfl (Nat.le_of_ble_eq_true rfl) dX10_caught_128 ⟨Nat.zero_le _, Nat.zero_le _⟩ (fun r18 H locs h hP hD hS => ?_)
        refine callVIr (rest := []) SF (c_X0_tickCaught l D cy tz ad t17 r18 _ h) (cw_RX10_173 hts ⟨Nat.le_of_ble_eq_true rfl, Nat.le_of_ble_eq_true rfl⟩) rfl rfl (va_recv hK hP (ci := 0) (q0 := 16) rfl rfl) hK hZ hA hP hD hS rfl hl.1 rfl (Nat.le_of_ble_eq_true rfl) dX10_caught_131 ⟨Nat.zero_le _, Nat.zero_le _⟩ (fun r20 H locs h hP hD hS => ?_)
        exact hret _ _ _ _ _ _ rfl h hP hD hS dX10_caught_134
      · have h := h.2 c9
        refine lv_bipush (v := (-2)) hx hb dX10_caught_33 (by decide) ?_
        exact hret _ _ _ _ _ _ rfl h hP hD hS dX10_caught_35
    · have h := h.2 c6
      refine lv_iconst (v := (-1)) hx hb dX10_caught_23 (by decide) ?_
      exact hret _ _ _ _ _ _ rfl h hP hD hS dX10_caught_24
