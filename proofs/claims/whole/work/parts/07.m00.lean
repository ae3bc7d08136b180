-- J9_floorMod_7cf53
def rm_J9_floorMod_7cf53 : Room := { frames := 0, cells := 0, slots := 0, locals := 0 }
abbrev ws_J9_floorMod_7cf53 : List Cond := .code yJ9_floorMod_7cf53 cJ9_floorMod_7cf53 3 (some .int) :: wsL_law
def wp_J9_floorMod_7cf53 (a1 : Int32) (a2 : Int32) (post : Int32 → Prop) : Prop := (¬ a2 = 0) ∧ (∀ x1 : Int32, x1 = (a1 - a1 / a2 * a2) → (((0 ≤ (a1 ^^^ a2)) → (post x1)) ∧ ((¬ 0 ≤ (a1 ^^^ a2)) → (((x1 = 0) → (post x1)) ∧ ((¬ x1 = 0) → (post (x1 + a2)))))))
set_option maxHeartbeats 4000000 in
set_option maxRecDepth 100000 in
theorem c_J9_floorMod_7cf53 (l : Launch) (D : va_G) (cy : Nat → ClassId) (tz : Nat → Nat) (w : va_W) (a1 : Int32) (a2 : Int32) (post : Int32 → Prop) (h : wp_J9_floorMod_7cf53 a1 a2 post) : CtI l D cy tz yJ9_floorMod_7cf53 ws_J9_floorMod_7cf53 rm_J9_floorMod_7cf53 [.int a1, .int a2] w (fun _ : Unit => w) (fun r _ => post r) := by
  refine CtI.of (own := RJ9) (nm := "floorMod") (lv := [(0, .int a1), (1, .int a2)]) (by decide +kernel) rfl rfl (Nat.le_of_ble_eq_true rfl) rfl ?_
  intro p e s m args below meth c A Q ls B hP hD hS hl hret
  obtain ⟨hx, hb, hml, hown, hts, hK, hZ, hA, hnm⟩ := B
  have SF : CallFix p m c cJ9_floorMod_7cf53 3 s args wsL_law RJ9 := ⟨hx, hb, hml, hown, hts⟩
  unfold wp_J9_floorMod_7cf53 at h
  refine lv_iload_n hx hb dJ9_floorMod_7cf53_0 rfl (lv_at hl 0 rfl) ?_
  refine lv_iload_n hx hb dJ9_floorMod_7cf53_1 rfl (lv_at hl 1 rfl) ?_
  refine lv_irem hx hb dJ9_floorMod_7cf53_2 h.1 ?_
  have h := h.2
  refine lv_topi (fun x1 e2 => ?_)
  have h := h x1 e2
  refine lv_istore_n (lv' := [(2, .int x1), (0, .int a1), (1, .int a2)]) hx hb dJ9_floorMod_7cf53_3 rfl hl (by decide) rfl (fun ls hl => ?_)
  refine lv_iload_n hx hb dJ9_floorMod_7cf53_4 rfl (lv_at hl 1 rfl) ?_
  refine lv_iload_n hx hb dJ9_floorMod_7cf53_5 rfl (lv_at hl 2 rfl) ?_
  refine lv_ixor hx hb dJ9_floorMod_7cf53_6 ?_
  refine lv_if_ge (tgt := 18) hx hb dJ9_floorMod_7cf53_7 (by decide) (fun c3 => ?_) (fun c3 => ?_)
  · have h := h.1 c3
    refine lv_iload_n hx hb dJ9_floorMod_7cf53_18 rfl (lv_at hl 0 rfl) ?_
    exact hret _ () _ _ _ _ rfl h hP hD hS dJ9_floorMod_7cf53_19
  · have h := h.2 c3
    refine lv_iload_n hx hb dJ9_floorMod_7cf53_10 rfl (lv_at hl 0 rfl) ?_
    refine lv_if_eq (tgt := 18) hx hb dJ9_floorMod_7cf53_11 (by decide) (fun c4 => ?_) (fun c4 => ?_)
    · have h := h.1 c4
      refine lv_iload_n hx hb dJ9_floorMod_7cf53_18 rfl (lv_at hl 0 rfl) ?_
      exact hret _ () _ _ _ _ rfl h hP hD hS dJ9_floorMod_7cf53_19
    · have h := h.2 c4
      refine lv_iload_n hx hb dJ9_floorMod_7cf53_14 rfl (lv_at hl 0 rfl) ?_
      refine lv_iload_n hx hb dJ9_floorMod_7cf53_15 rfl (lv_at hl 2 rfl) ?_
      refine lv_iadd hx hb dJ9_floorMod_7cf53_16 ?_
      exact hret _ () _ _ _ _ rfl h hP hD hS dJ9_floorMod_7cf53_17
-- X5_wayOf
def rm_X5_wayOf : Room := { frames := 1, cells := 0, slots := 0, locals := 22 }
abbrev ws_X5_wayOf : List Cond := .code yX5_wayOf cX5_wayOf 1 (some .int) :: wsL_law
theorem cw_RX5_30 {R : Room} {s : State} {args : Array Value} (hts : ∀ w ∈ wsL_law, w.before args s = true) (hR : rm_J9_floorMod_7cf53.frames + 1 ≤ R.frames ∧ 8 + (3 + 11) + rm_J9_floorMod_7cf53.locals ≤ R.locals) : CallB R s args RX5 30 yJ9_floorMod_7cf53 cJ9_floorMod_7cf53 3 (some .int) ws_J9_floorMod_7cf53 rm_J9_floorMod_7cf53 rm_J9_floorMod_7cf53.cells rm_J9_floorMod_7cf53.slots 2 ∧ (Cond.static yJ9_floorMod_7cf53).before args s = true := va_cwS 2 hts (gdS w_11_9 w_11_10 w_11_11 w_11_12) rfl rfl rfl (by decide +kernel) hR
def wp_X5_wayOf (a1 : Int32) (post : Int32 → Prop) : Prop := wp_J9_floorMod_7cf53 a1 240 (fun r1 => post (r1 / 10))
set_option maxHeartbeats 4000000 in
set_option maxRecDepth 100000 in
theorem c_X5_wayOf (l : Launch) (D : va_G) (cy : Nat → ClassId) (tz : Nat → Nat) (w : va_W) (a1 : Int32) (post : Int32 → Prop) (h : wp_X5_wayOf a1 post) : CtI l D cy tz yX5_wayOf ws_X5_wayOf rm_X5_wayOf [.int a1] w (fun _ : Unit => w) (fun r _ => post r) := by
  refine CtI.of (own := RX5) (nm := "wayOf") (lv := [(0, .int a1)]) (plainFor_of_name (by decide)) rfl rfl (Nat.le_of_ble_eq_true rfl) rfl ?_
  intro p e s m args below meth c A Q ls B hP hD hS hl hret
  obtain ⟨hx, hb, hml, hown, hts, hK, hZ, hA, hnm⟩ := B
  have SF : CallFix p m c cX5_wayOf 1 s args wsL_law RX5 := ⟨hx, hb, hml, hown, hts⟩
  unfold wp_X5_wayOf at h
  refine lv_iload_n hx hb dX5_wayOf_0 rfl (lv_at hl 0 rfl) ?_
  refine lv_sipush (v := 240) hx hb dX5_wayOf_1 (by decide) ?_
  refine callSIr (rest := []) SF (c_J9_floorMod_7cf53 l D cy tz _ a1 240 _ h) (cw_RX5_30 hts ⟨Nat.le_of_ble_eq_true rfl, Nat.le_of_ble_eq_true rfl⟩) rfl rfl hK hZ hA hP hD hS rfl hl.1 rfl (Nat.le_of_ble_eq_true rfl) dX5_wayOf_4 ⟨Nat.zero_le _, Nat.zero_le _⟩ (fun r1 H locs h hP hD hS => ?_)
  refine lv_bipush (v := 10) hx hb dX5_wayOf_7 (by decide) ?_
  refine lv_idiv hx hb dX5_wayOf_9 (by decide) ?_
  exact hret _ () _ _ _ _ rfl h hP hD hS dX5_wayOf_10
-- X5_wayBehind
def rm_X5_wayBehind : Room := { frames := 2, cells := 0, slots := 0, locals := 42 }
abbrev ws_X5_wayBehind : List Cond := .code yX5_wayBehind cX5_wayBehind 2 (some .int) :: wsL_law
theorem cw_RX5_48 {R : Room} {s : State} {args : Array Value} (hts : ∀ w ∈ wsL_law, w.before args s = true) (hR : rm_X5_wayOf.frames + 1 ≤ R.frames ∧ 8 + (1 + 11) + rm_X5_wayOf.locals ≤ R.locals) : CallB R s args RX5 48 yX5_wayOf cX5_wayOf 1 (some .int) ws_X5_wayOf rm_X5_wayOf rm_X5_wayOf.cells rm_X5_wayOf.slots 1 ∧ (Cond.static yX5_wayOf).before args s = true := va_cwS 1 hts (gdS w_15_6 w_15_7 w_1_23 w_15_8) rfl rfl rfl (by decide +kernel) hR
def wp_X5_wayBehind (st : St) (a1 : Int32) (post : Int32 → Prop) : Prop := vp_in a1 61 ∧ (wp_X5_wayOf (gA st 8 a1.toNatClampNeg) (fun r1 => post r1))
set_option maxHeartbeats 4000000 in
set_option maxRecDepth 100000 in
theorem c_X5_wayBehind (l : Launch) (D : va_G) (cy : Nat → ClassId) (tz : Nat → Nat) (ad : Nat → Nat) (st : St) (a1 : Int32) (post : Int32 → Prop) (h : wp_X5_wayBehind st a1 post) : CtI l D cy tz yX5_wayBehind ws_X5_wayBehind rm_X5_wayBehind [.ref (ad 13), .int a1] (wX cy ad st) (fun _ : Unit => wX cy ad st) (fun r _ => post r) := by
  refine CtI.of (own := RX5) (nm := "wayBehind") (lv := [(0, .ref (ad 13)), (1, .int a1)]) (plainFor_of_name (by decide)) rfl rfl (Nat.le_of_ble_eq_true rfl) rfl ?_
  intro p e s m args below meth c A Q ls B hP hD hS hl hret
  obtain ⟨hx, hb, hml, hown, hts, hK, hZ, hA, hnm⟩ := B
  have SF : CallFix p m c cX5_wayBehind 2 s args wsL_law RX5 := ⟨hx, hb, hml, hown, hts⟩
  unfold wp_X5_wayBehind at h
  refine lv_aload_n hx hb dX5_wayBehind_0 rfl (lv_at hl 0 rfl) ?_
  refine va_get (D := D) (ci := 5) (v := .ref (ad 14)) (C := RX5) (T := TX5) (N := 2) hx hb hts inlX5 hown hK hP 13 rfl rfl 0 (by decide) (hts _ w_4_8) (fun _ h9 => h9) rfl dX5_wayBehind_1 ?_
  refine lv_iload_n hx hb dX5_wayBehind_4 rfl (lv_at hl 1 rfl) ?_
  refine va_iald (f := gA st 8) (n := 61) hx hb hK hP 14 0 rfl rfl h.1 dX5_wayBehind_5 ?_
  have h := h.2
  refine callSIr (rest := []) SF (c_X5_wayOf l D cy tz _ (gA st 8 a1.toNatClampNeg) _ h) (cw_RX5_48 hts ⟨Nat.le_of_ble_eq_true rfl, Nat.le_of_ble_eq_true rfl⟩) rfl rfl hK hZ hA hP hD hS rfl hl.1 rfl (Nat.le_of_ble_eq_true rfl) dX5_wayBehind_6 ⟨Nat.zero_le _, Nat.zero_le _⟩ (fun r1 H locs h hP hD hS => ?_)
  exact hret _ () _ _ _ _ rfl h hP hD hS dX5_wayBehind_9
-- X9_cosine
def rm_X9_cosine : Room := { frames := 1, cells := 0, slots := 0, locals := 22 }
abbrev ws_X9_cosine : List Cond := .code yX9_cosine cX9_cosine 1 (some .long) :: wsL_law
theorem cw_RX9_15 {R : Room} {s : State} {args : Array Value} (hts : ∀ w ∈ wsL_law, w.before args s = true) (hR : rm_J9_floorMod_7cf53.frames + 1 ≤ R.frames ∧ 8 + (3 + 11) + rm_J9_floorMod_7cf53.locals ≤ R.locals) : CallB R s args RX9 15 yJ9_floorMod_7cf53 cJ9_floorMod_7cf53 3 (some .int) ws_J9_floorMod_7cf53 rm_J9_floorMod_7cf53 rm_J9_floorMod_7cf53.cells rm_J9_floorMod_7cf53.slots 2 ∧ (Cond.static yJ9_floorMod_7cf53).before args s = true := va_cwS 2 hts (gdS w_13_14 w_11_10 w_11_11 w_11_12) rfl rfl rfl (by decide +kernel) hR
def wp_X9_cosine (a1 : Int32) (post : Int64 → Prop) : Prop := wp_J9_floorMod_7cf53 (a1 + 6) 24 (fun r1 => vp_in r1 24 ∧ (post ((zS r1.toNatClampNeg).toInt64)))
set_option maxHeartbeats 4000000 in
set_option maxRecDepth 100000 in
theorem c_X9_cosine (l : Launch) (D : va_G) (cy : Nat → ClassId) (tz : Nat → Nat) (w : va_W) (a1 : Int32) (post : Int64 → Prop) (h : wp_X9_cosine a1 post) : CtL l D cy tz yX9_cosine ws_X9_cosine rm_X9_cosine [.int a1] w (fun _ : Unit => w) (fun r _ => post r) := by
  refine CtL.of (own := RX9) (nm := "cosine") (lv := [(0, .int a1)]) (plainFor_of_name (by decide)) rfl rfl (Nat.le_of_ble_eq_true rfl) rfl ?_
  intro p e s m args below meth c A Q ls B hP hD hS hl hret
  obtain ⟨hx, hb, hml, hown, hts, hK, hZ, hA, hnm⟩ := B
  have SF : CallFix p m c cX9_cosine 1 s args wsL_law RX9 := ⟨hx, hb, hml, hown, hts⟩
  unfold wp_X9_cosine at h
  refine va_gets (v := .ref (tz 0)) hx hb hZ.1.1.1 hS hown (hts _ w_13_13) (fun _ h9 => h9) dX9_cosine_0 ?_
  refine lv_iload_n hx hb dX9_cosine_3 rfl (lv_at hl 0 rfl) ?_
  refine lv_bipush (v := 6) hx hb dX9_cosine_4 (by decide) ?_
  refine lv_iadd hx hb dX9_cosine_6 ?_
  refine lv_bipush (v := 24) hx hb dX9_cosine_7 (by decide) ?_
  refine callSIr (rest := [.ref (tz 0)]) SF (c_J9_floorMod_7cf53 l D cy tz _ (a1 + 6) 24 _ h) (cw_RX9_15 hts ⟨Nat.le_of_ble_eq_true rfl, Nat.le_of_ble_eq_true rfl⟩) rfl rfl hK hZ hA hP hD hS rfl hl.1 rfl (Nat.le_of_ble_eq_true rfl) dX9_cosine_9 ⟨Nat.zero_le _, Nat.zero_le _⟩ (fun r1 H locs h hP hD hS => ?_)
  refine va_ti (v := .int (zS r1.toNatClampNeg)) hx hb hZ.1.1.2 hS h.1 rfl dX9_cosine_12 ?_
  have h := h.2
  refine lv_i2l (v := (zS r1.toNatClampNeg).toInt64) hx hb dX9_cosine_13 rfl ?_
  exact hret _ () _ _ _ _ h hP hD hS dX9_cosine_14
-- X9_sine
def rm_X9_sine : Room := { frames := 1, cells := 0, slots := 0, locals := 22 }
abbrev ws_X9_sine : List Cond := .code yX9_sine cX9_sine 1 (some .long) :: wsL_law
def wp_X9_sine (a1 : Int32) (post : Int64 → Prop) : Prop := wp_J9_floorMod_7cf53 a1 24 (fun r1 => vp_in r1 24 ∧ (post ((zS r1.toNatClampNeg).toInt64)))
set_option maxHeartbeats 4000000 in
set_option maxRecDepth 100000 in
theorem c_X9_sine (l : Launch) (D : va_G) (cy : Nat → ClassId) (tz : Nat → Nat) (w : va_W) (a1 : Int32) (post : Int64 → Prop) (h : wp_X9_sine a1 post) : CtL l D cy tz yX9_sine ws_X9_sine rm_X9_sine [.int a1] w (fun _ : Unit => w) (fun r _ => post r) := by
  refine CtL.of (own := RX9) (nm := "sine") (lv := [(0, .int a1)]) (plainFor_of_name (by decide)) rfl rfl (Nat.le_of_ble_eq_true rfl) rfl ?_
  intro p e s m args below meth c A Q ls B hP hD hS hl hret
  obtain ⟨hx, hb, hml, hown, hts, hK, hZ, hA, hnm⟩ := B
  have SF : CallFix p m c cX9_sine 1 s args wsL_law RX9 := ⟨hx, hb, hml, hown, hts⟩
  unfold wp_X9_sine at h
  refine va_gets (v := .ref (tz 0)) hx hb hZ.1.1.1 hS hown (hts _ w_13_13) (fun _ h9 => h9) dX9_sine_0 ?_
  refine lv_iload_n hx hb dX9_sine_3 rfl (lv_at hl 0 rfl) ?_
  refine lv_bipush (v := 24) hx hb dX9_sine_4 (by decide) ?_
  refine callSIr (rest := [.ref (tz 0)]) SF (c_J9_floorMod_7cf53 l D cy tz _ a1 24 _ h) (cw_RX9_15 hts ⟨Nat.le_of_ble_eq_true rfl, Nat.le_of_ble_eq_true rfl⟩) rfl rfl hK hZ hA hP hD hS rfl hl.1 rfl (Nat.le_of_ble_eq_true rfl) dX9_sine_6 ⟨Nat.zero_le _, Nat.zero_le _⟩ (fun r1 H locs h hP hD hS => ?_)
  refine va_ti (v := .int (zS r1.toNatClampNeg)) hx hb hZ.1.1.2 hS h.1 rfl dX9_sine_9 ?_
  have h := h.2
  refine lv_i2l (v := (zS r1.toNatClampNeg).toInt64) hx hb dX9_sine_10 rfl ?_
  exact hret _ () _ _ _ _ h hP hD hS dX9_sine_11
-- X9_turnX
def rm_X9_turnX : Room := { frames := 2, cells := 0, slots := 0, locals := 42 }
abbrev ws_X9_turnX : List Cond := .code yX9_turnX cX9_turnX 5 (some .long) :: wsL_law
theorem cw_RX9_21 {R : Room} {s : State} {args : Array Value} (hts : ∀ w ∈ wsL_law, w.before args s = true) (hR : rm_X9_cosine.frames + 1 ≤ R.frames ∧ 8 + (1 + 11) + rm_X9_cosine.locals ≤ R.locals) : CallB R s args RX9 21 yX9_cosine cX9_cosine 1 (some .long) ws_X9_cosine rm_X9_cosine rm_X9_cosine.cells rm_X9_cosine.slots 1 ∧ (Cond.static yX9_cosine).before args s = true := va_cwS 1 hts (gdS w_13_10 w_13_11 w_13_7 w_13_12) rfl rfl rfl (by decide +kernel) hR
theorem cw_RX9_25 {R : Room} {s : State} {args : Array Value} (hts : ∀ w ∈ wsL_law, w.before args s = true) (hR : rm_X9_sine.frames + 1 ≤ R.frames ∧ 8 + (1 + 11) + rm_X9_sine.locals ≤ R.locals) : CallB R s args RX9 25 yX9_sine cX9_sine 1 (some .long) ws_X9_sine rm_X9_sine rm_X9_sine.cells rm_X9_sine.slots 1 ∧ (Cond.static yX9_sine).before args s = true := va_cwS 1 hts (gdS w_13_15 w_13_16 w_13_7 w_13_17) rfl rfl rfl (by decide +kernel) hR
def wp_X9_turnX (a1 : Int64) (a2 : Int64) (a3 : Int32) (post : Int64 → Prop) : Prop := wp_X9_cosine a3 (fun r1 => wp_X9_sine a3 (fun r3 => post (((a1 * r1) - (a2 * r3)) / 10000)))
set_option maxHeartbeats 4000000 in
set_option maxRecDepth 100000 in
theorem c_X9_turnX (l : Launch) (D : va_G) (cy : Nat → ClassId) (tz : Nat → Nat) (w : va_W) (a1 : Int64) (a2 : Int64) (a3 : Int32) (post : Int64 → Prop) (h : wp_X9_turnX a1 a2 a3 post) : CtL l D cy tz yX9_turnX ws_X9_turnX rm_X9_turnX [.long a1, .long a2, .int a3] w (fun _ : Unit => w) (fun r _ => post r) := by
  refine CtL.of (own := RX9) (nm := "turnX") (lv := [(0, .long a1), (2, .long a2), (4, .int a3)]) (plainFor_of_name (by decide)) rfl rfl (Nat.le_of_ble_eq_true rfl) rfl ?_
  intro p e s m args below meth c A Q ls B hP hD hS hl hret
  obtain ⟨hx, hb, hml, hown, hts, hK, hZ, hA, hnm⟩ := B
  have SF : CallFix p m c cX9_turnX 5 s args wsL_law RX9 := ⟨hx, hb, hml, hown, hts⟩
  unfold wp_X9_turnX at h
  refine lv_lload_n hx hb dX9_turnX_0 rfl (lv_at hl 0 rfl) ?_
  refine lv_iload hx hb dX9_turnX_1 (lv_at hl 2 rfl) ?_
  refine callSLr (rest := [.long a1]) SF (c_X9_cosine l D cy tz _ a3 _ h) (cw_RX9_21 hts ⟨Nat.le_of_ble_eq_true rfl, Nat.le_of_ble_eq_true rfl⟩) rfl rfl hK hZ hA hP hD hS rfl hl.1 rfl (Nat.le_of_ble_eq_true rfl) dX9_turnX_3 ⟨Nat.zero_le _, Nat.zero_le _⟩ (fun r1 H locs h hP hD hS => ?_)
  refine lv_lmul hx hb dX9_turnX_6 ?_
  refine lv_lload_n hx hb dX9_turnX_7 rfl (lv_at hl 1 rfl) ?_
  refine lv_iload hx hb dX9_turnX_8 (lv_at hl 2 rfl) ?_
  refine callSLr (rest := [.long a2, .long (a1 * r1)]) SF (c_X9_sine l D cy tz _ a3 _ h) (cw_RX9_25 hts ⟨Nat.le_of_ble_eq_true rfl, Nat.le_of_ble_eq_true rfl⟩) rfl rfl hK hZ hA hP hD hS rfl hl.1 rfl (Nat.le_of_ble_eq_true rfl) dX9_turnX_10 ⟨Nat.zero_le _, Nat.zero_le _⟩ (fun r3 H locs h hP hD hS => ?_)
  refine lv_lmul hx hb dX9_turnX_13 ?_
  refine lv_lsub hx hb dX9_turnX_14 ?_
  refine lv_ldc2 (v := 10000) hx hb hown (hts _ w_13_9) dX9_turnX_15 ?_
  refine lv_ldiv hx hb dX9_turnX_18 (by decide) ?_
  exact hret _ () _ _ _ _ h hP hD hS dX9_turnX_19
-- X9_turnY
def rm_X9_turnY : Room := { frames := 2, cells := 0, slots := 0, locals := 42 }
abbrev ws_X9_turnY : List Cond := .code yX9_turnY cX9_turnY 5 (some .long) :: wsL_law
def wp_X9_turnY (a1 : Int64) (a2 : Int64) (a3 : Int32) (post : Int64 → Prop) : Prop := wp_X9_sine a3 (fun r1 => wp_X9_cosine a3 (fun r3 => post (((a1 * r1) + (a2 * r3)) / 10000)))
set_option maxHeartbeats 4000000 in
set_option maxRecDepth 100000 in
theorem c_X9_turnY (l : Launch) (D : va_G) (cy : Nat → ClassId) (tz : Nat → Nat) (w : va_W) (a1 : Int64) (a2 : Int64) (a3 : Int32) (post : Int64 → Prop) (h : wp_X9_turnY a1 a2 a3 post) : CtL l D cy tz yX9_turnY ws_X9_turnY rm_X9_turnY [.long a1, .long a2, .int a3] w (fun _ : Unit => w) (fun r _ => post r) := by
  refine CtL.of (own := RX9) (nm := "turnY") (lv := [(0, .long a1), (2, .long a2), (4, .int a3)]) (plainFor_of_name (by decide)) rfl rfl (Nat.le_of_ble_eq_true rfl) rfl ?_
  intro p e s m args below meth c A Q ls B hP hD hS hl hret
  obtain ⟨hx, hb, hml, hown, hts, hK, hZ, hA, hnm⟩ := B
  have SF : CallFix p m c cX9_turnY 5 s args wsL_law RX9 := ⟨hx, hb, hml, hown, hts⟩
  unfold wp_X9_turnY at h
  refine lv_lload_n hx hb dX9_turnY_0 rfl (lv_at hl 0 rfl) ?_
  refine lv_iload hx hb dX9_turnY_1 (lv_at hl 2 rfl) ?_
  refine callSLr (rest := [.long a1]) SF (c_X9_sine l D cy tz _ a3 _ h) (cw_RX9_25 hts ⟨Nat.le_of_ble_eq_true rfl, Nat.le_of_ble_eq_true rfl⟩) rfl rfl hK hZ hA hP hD hS rfl hl.1 rfl (Nat.le_of_ble_eq_true rfl) dX9_turnY_3 ⟨Nat.zero_le _, Nat.zero_le _⟩ (fun r1 H locs h hP hD hS => ?_)
  refine lv_lmul hx hb dX9_turnY_6 ?_
  refine lv_lload_n hx hb dX9_turnY_7 rfl (lv_at hl 1 rfl) ?_
  refine lv_iload hx hb dX9_turnY_8 (lv_at hl 2 rfl) ?_
  refine callSLr (rest := [.long a2, .long (a1 * r1)]) SF (c_X9_cosine l D cy tz _ a3 _ h) (cw_RX9_21 hts ⟨Nat.le_of_ble_eq_true rfl, Nat.le_of_ble_eq_true rfl⟩) rfl rfl hK hZ hA hP hD hS rfl hl.1 rfl (Nat.le_of_ble_eq_true rfl) dX9_turnY_10 ⟨Nat.zero_le _, Nat.zero_le _⟩ (fun r3 H locs h hP hD hS => ?_)
  refine lv_lmul hx hb dX9_turnY_13 ?_
  refine lv_ladd hx hb dX9_turnY_14 ?_
  refine lv_ldc2 (v := 10000) hx hb hown (hts _ w_13_9) dX9_turnY_15 ?_
  refine lv_ldiv hx hb dX9_turnY_18 (by decide) ?_
  exact hret _ () _ _ _ _ h hP hD hS dX9_turnY_19
-- X0_throwAnew
def rm_X0_throwAnew : Room := { frames := 3, cells := 0, slots := 0, locals := 66 }
abbrev ws_X0_throwAnew : List Cond := .code yX0_throwAnew cX0_throwAnew 3 none :: wsL_law
theorem cw_RX0_24 {R : Room} {s : State} {args : Array Value} (hts : ∀ w ∈ wsL_law, w.before args s = true) (hR : rm_X9_turnX.frames + 1 ≤ R.frames ∧ 8 + (5 + 11) + rm_X9_turnX.locals ≤ R.locals) : CallB R s args RX0 24 yX9_turnX cX9_turnX 5 (some .long) ws_X9_turnX rm_X9_turnX rm_X9_turnX.cells rm_X9_turnX.slots 3 ∧ (Cond.static yX9_turnX).before args s = true := va_cwS 3 hts (gdS w_16_22 w_13_6 w_13_7 w_13_8) rfl rfl rfl (by decide +kernel) hR
theorem cw_RX0_33 {R : Room} {s : State} {args : Array Value} (hts : ∀ w ∈ wsL_law, w.before args s = true) (hR : rm_X9_turnY.frames + 1 ≤ R.frames ∧ 8 + (5 + 11) + rm_X9_turnY.locals ≤ R.locals) : CallB R s args RX0 33 yX9_turnY cX9_turnY 5 (some .long) ws_X9_turnY rm_X9_turnY rm_X9_turnY.cells rm_X9_turnY.slots 3 ∧ (Cond.static yX9_turnY).before args s = true := va_cwS 3 hts (gdS w_16_23 w_13_19 w_13_7 w_13_20) rfl rfl rfl (by decide +kernel) hR
def wp_X0_throwAnew (st : St) (a1 : Int32) (a2 : Int32) (post : St → Prop) : Prop := wp_X9_turnX a1.toInt64 0 a2 (fun r1 => ∀ x3 : Int64, x3 = (r1 + gL st 4) → (wp_X9_turnY a1.toInt64 0 a2 (fun r5 => ∀ x7 : Int64, x7 = (r5 + gL st 5) → (post (sL (sL st 2 x3) 3 x7)))))
set_option maxHeartbeats 4000000 in
set_option maxRecDepth 100000 in
theorem c_X0_throwAnew (l : Launch) (D : va_G) (cy : Nat → ClassId) (tz : Nat → Nat) (ad : Nat → Nat) (st : St) (a1 : Int32) (a2 : Int32) (post : St → Prop) (h : wp_X0_throwAnew st a1 a2 post) : CtV l D cy tz yX0_throwAnew ws_X0_throwAnew rm_X0_throwAnew [.ref (ad 16), .int a1, .int a2] (wX cy ad st) (wX cy ad) post := by
  refine CtV.of (own := RX0) (nm := "throwAnew") (lv := [(0, .ref (ad 16)), (1, .int a1), (2, .int a2)]) (plainFor_of_name (by decide)) rfl rfl (Nat.le_of_ble_eq_true rfl) rfl ?_
  intro p e s m args below meth c A Q ls B hP hD hS hl hret
  obtain ⟨hx, hb, hml, hown, hts, hK, hZ, hA, hnm⟩ := B
  have SF : CallFix p m c cX0_throwAnew 3 s args wsL_law RX0 := ⟨hx, hb, hml, hown, hts⟩
  unfold wp_X0_throwAnew at h
  refine lv_aload_n hx hb dX0_throwAnew_0 rfl (lv_at hl 0 rfl) ?_
  refine lv_iload_n hx hb dX0_throwAnew_1 rfl (lv_at hl 1 rfl) ?_
  refine lv_i2l (v := a1.toInt64) hx hb dX0_throwAnew_2 rfl ?_
  refine lv_lconst (v := 0) hx hb dX0_throwAnew_3 (by decide) ?_
  refine lv_iload_n hx hb dX0_throwAnew_4 rfl (lv_at hl 2 rfl) ?_
  refine callSLr (rest := [.ref (ad 16)]) SF (c_X9_turnX l D cy tz _ a1.toInt64 0 a2 _ h) (cw_RX0_24 hts ⟨Nat.le_of_ble_eq_true rfl, Nat.le_of_ble_eq_true rfl⟩) rfl rfl hK hZ hA hP hD hS rfl hl.1 rfl (Nat.le_of_ble_eq_true rfl) dX0_throwAnew_5 ⟨Nat.zero_le _, Nat.zero_le _⟩ (fun r1 H locs h hP hD hS => ?_)
  refine lv_aload_n hx hb dX0_throwAnew_8 rfl (lv_at hl 0 rfl) ?_
  refine va_get (D := D) (ci := 0) (v := .long (gL st 4)) (C := RX0) (T := TX0) (N := 6) hx hb hts inlX0 hown hK hP 16 rfl rfl 4 (by decide) (hts _ w_16_19) (fun _ h9 => h9) rfl dX0_throwAnew_9 ?_
  refine lv_ladd hx hb dX0_throwAnew_12 ?_
  refine lv_topl (fun x3 e4 => ?_)
  have h := h x3 e4
  refine va_put (D := D) (ci := 0) (v := .long x3) (ty := .long) (C := RX0) (T := TX0) (N := 6) hx hb hts inlX0 tyX0 tyX0_ok nmX0 hown hK hP hD hS 16 rfl rfl 2 (by decide) (hts _ w_17_4) (fun _ h9 => h9) rfl (by decide +kernel) rfl rfl (Nat.le_of_ble_eq_true rfl) dX0_throwAnew_13 (fun H locs hP hD hS => ?_)
  have hP : va_P D vwCl (wX cy ad (sL st 2 x3)) H := hP
  have hD : va_D A (wX cy ad (sL st 2 x3)) := hD
  refine lv_aload_n hx hb dX0_throwAnew_16 rfl (lv_at hl 0 rfl) ?_
  refine lv_iload_n hx hb dX0_throwAnew_17 rfl (lv_at hl 1 rfl) ?_
  refine lv_i2l (v := a1.toInt64) hx hb dX0_throwAnew_18 rfl ?_
  refine lv_lconst (v := 0) hx hb dX0_throwAnew_19 (by decide) ?_
  refine lv_iload_n hx hb dX0_throwAnew_20 rfl (lv_at hl 2 rfl) ?_
  refine callSLr (rest := [.ref (ad 16)]) SF (c_X9_turnY l D cy tz _ a1.toInt64 0 a2 _ h) (cw_RX0_33 hts ⟨Nat.le_of_ble_eq_true rfl, Nat.le_of_ble_eq_true rfl⟩) rfl rfl hK hZ hA hP hD hS rfl hl.1 rfl (Nat.le_of_ble_eq_true rfl) dX0_throwAnew_21 ⟨Nat.zero_le _, Nat.zero_le _⟩ (fun r5 H locs h hP hD hS => ?_)
  refine lv_aload_n hx hb dX0_throwAnew_24 rfl (lv_at hl 0 rfl) ?_
  refine va_get (D := D) (ci := 0) (v := .long (gL st 5)) (C := RX0) (T := TX0) (N := 6) hx hb hts inlX0 hown hK hP 16 rfl rfl 5 (by decide) (hts _ w_16_20) (fun _ h9 => h9) rfl dX0_throwAnew_25 ?_
  refine lv_ladd hx hb dX0_throwAnew_28 ?_
  refine lv_topl (fun x7 e8 => ?_)
  have h := h x7 e8
  refine va_put (D := D) (ci := 0) (v := .long x7) (ty := .long) (C := RX0) (T := TX0) (N := 6) hx hb hts inlX0 tyX0 tyX0_ok nmX0 hown hK hP hD hS 16 rfl rfl 3 (by decide) (hts _ w_17_5) (fun _ h9 => h9) rfl (by decide +kernel) rfl rfl (Nat.le_of_ble_eq_true rfl) dX0_throwAnew_29 (fun H locs hP hD hS => ?_)
  have hP : va_P D vwCl (wX cy ad (sL (sL st 2 x3) 3 x7)) H := hP
  have hD : va_D A (wX cy ad (sL (sL st 2 x3) 3 x7)) := hD
  exact hret _ _ _ _ _ h hP hD hS dX0_throwAnew_32
-- X0_launch
def rm_X0_launch : Room := { frames := 4, cells := 0, slots := 0, locals := 88 }
abbrev ws_X0_launch : List Cond := .code yX0_launch cX0_launch 7 none :: wsL_law
theorem cw_RX0_9 {R : Room} {s : State} {args : Array Value} (hts : ∀ w ∈ wsL_law, w.before args s = true) (hR : rm_X5_wayBehind.frames + 1 ≤ R.frames ∧ 8 + (2 + 11) + rm_X5_wayBehind.locals ≤ R.locals) : CallW R s args RX0 RX5 9 yX5_wayBehind cX5_wayBehind 2 (some .int) ws_X5_wayBehind rm_X5_wayBehind rm_X5_wayBehind.cells rm_X5_wayBehind.slots 1 := cwV 1 hts (gdV w_16_21 w_15_3 w_15_4 w_1_23 w_15_5) rfl rfl rfl (by decide +kernel) hR
theorem cw_RX0_39 {R : Room} {s : State} {args : Array Value} (hts : ∀ w ∈ wsL_law, w.before args s = true) (hR : rm_X0_throwAnew.frames + 1 ≤ R.frames ∧ 8 + (3 + 11) + rm_X0_throwAnew.locals ≤ R.locals) : CallW R s args RX0 RX0 39 yX0_throwAnew cX0_throwAnew 3 none ws_X0_throwAnew rm_X0_throwAnew rm_X0_throwAnew.cells rm_X0_throwAnew.slots 2 := cwV 2 hts (gdV w_17_0 w_17_1 w_17_2 w_2_3 w_17_3) rfl rfl rfl (by decide +kernel) hR
def wp_X0_launch (st : St) (a1 : Int32) (a2 : Int32) (a3 : Int32) (a4 : Int32) (post : St → Prop) : Prop := wp_X5_wayBehind st 1 (fun r1 => ∀ x3 : Int64, x3 = a1.toInt64 → (∀ x5 : Int64, x5 = a2.toInt64 → (wp_X9_turnX x3 x5 r1 (fun r7 => ∀ x9 : Int64, x9 = (r7 - x3) → (wp_X9_turnY x3 x5 r1 (fun r11 => ∀ x13 : Int64, x13 = (r11 - x5) → (wp_X0_throwAnew (sL (sL (sL (sL st 0 x3) 1 x5) 4 x9) 5 x13) a3 a4 (fun t16 => post t16))))))))
set_option maxHeartbeats 4000000 in
set_option maxRecDepth 100000 in
theorem c_X0_launch (l : Launch) (D : va_G) (cy : Nat → ClassId) (tz : Nat → Nat) (ad : Nat → Nat) (st : St) (a1 : Int32) (a2 : Int32) (a3 : Int32) (a4 : Int32) (post : St → Prop) (h : wp_X0_launch st a1 a2 a3 a4 post) : CtV l D cy tz yX0_launch ws_X0_launch rm_X0_launch [.ref (ad 16), .int a1, .int a2, .int a3, .int a4, .ref (ad 13)] (wX cy ad st) (wX cy ad) post := by
  refine CtV.of (own := RX0) (nm := "launch") (lv := [(0, .ref (ad 16)), (1, .int a1), (2, .int a2), (3, .int a3), (4, .int a4), (5, .ref (ad 13))]) (plainFor_of_name (by decide)) rfl rfl (Nat.le_of_ble_eq_true rfl) rfl ?_
  intro p e s m args below meth c A Q ls B hP hD hS hl hret
  obtain ⟨hx, hb, hml, hown, hts, hK, hZ, hA, hnm⟩ := B
  have SF : CallFix p m c cX0_launch 7 s args wsL_law RX0 := ⟨hx, hb, hml, hown, hts⟩
  unfold wp_X0_launch at h
  refine lv_aload hx hb dX0_launch_0 (lv_at hl 5 rfl) ?_
  refine lv_iconst (v := 1) hx hb dX0_launch_2 (by decide) ?_
  refine callVIr (rest := []) SF (c_X5_wayBehind l D cy tz ad st 1 _ h) (cw_RX0_9 hts ⟨Nat.le_of_ble_eq_true rfl, Nat.le_of_ble_eq_true rfl⟩) rfl rfl (va_recv hK hP (ci := 5) (q0 := 13) rfl rfl) hK hZ hA hP hD hS rfl hl.1 rfl (Nat.le_of_ble_eq_true rfl) dX0_launch_3 ⟨Nat.zero_le _, Nat.zero_le _⟩ (fun r1 H locs h hP hD hS => ?_)
  refine lv_istore (lv' := [(6, .int r1), (0, .ref (ad 16)), (1, .int a1), (2, .int a2), (3, .int a3), (4, .int a4), (5, .ref (ad 13))]) hx hb dX0_launch_6 hl (by decide) rfl (fun ls hl => ?_)
  refine lv_aload_n hx hb dX0_launch_8 rfl (lv_at hl 1 rfl) ?_
  refine lv_iload_n hx hb dX0_launch_9 rfl (lv_at hl 2 rfl) ?_
  refine lv_i2l (v := a1.toInt64) hx hb dX0_launch_10 rfl ?_
  refine lv_topl (fun x3 e4 => ?_)
  have h := h x3 e4
  refine va_put (D := D) (ci := 0) (v := .long x3) (ty := .long) (C := RX0) (T := TX0) (N := 6) hx hb hts inlX0 tyX0 tyX0_ok nmX0 hown hK hP hD hS 16 rfl rfl 0 (by decide) (hts _ w_16_17) (fun _ h9 => h9) rfl (by decide +kernel) rfl rfl (Nat.le_of_ble_eq_true rfl) dX0_launch_11 (fun H locs hP hD hS => ?_)
  have hP : va_P D vwCl (wX cy ad (sL st 0 x3)) H := hP
  have hD : va_D A (wX cy ad (sL st 0 x3)) := hD
  refine lv_aload_n hx hb dX0_launch_14 rfl (lv_at hl 1 rfl) ?_
  refine lv_iload_n hx hb dX0_launch_15 rfl (lv_at hl 3 rfl) ?_
  refine lv_i2l (v := a2.toInt64) hx hb dX0_launch_16 rfl ?_
  refine lv_topl (fun x5 e6 => ?_)
  have h := h x5 e6
  refine va_put (D := D) (ci := 0) (v := .long x5) (ty := .long) (C := RX0) (T := TX0) (N := 6) hx hb hts inlX0 tyX0 tyX0_ok nmX0 hown hK hP hD hS 16 rfl rfl 1 (by decide) (hts _ w_16_18) (fun _ h9 => h9) rfl (by decide +kernel) rfl rfl (Nat.le_of_ble_eq_true rfl) dX0_launch_17 (fun H locs hP hD hS => ?_)
  have hP : va_P D vwCl (wX cy ad (sL (sL st 0 x3) 1 x5)) H := hP
  have hD : va_D A (wX cy ad (sL (sL st 0 x3) 1 x5)) := hD
  refine lv_aload_n hx hb dX0_launch_20 rfl (lv_at hl 1 rfl) ?_
  refine lv_aload_n hx hb dX0_launch_21 rfl (lv_at hl 1 rfl) ?_
  refine va_get (D := D) (ci := 0) (v := .long x3) (C := RX0) (T := TX0) (N := 6) hx hb hts inlX0 hown hK hP 16 rfl rfl 0 (by decide) (hts _ w_16_17) (fun _ h9 => h9) rfl dX0_launch_22 ?_
  refine lv_aload_n hx hb dX0_launch_25 rfl (lv_at hl 1 rfl) ?_
  refine va_get (D := D) (ci := 0) (v := .long x5) (C := RX0) (T := TX0) (N := 6) hx hb hts inlX0 hown hK hP 16 rfl rfl 1 (by decide) (hts _ w_16_18) (fun _ h9 => h9) rfl dX0_launch_26 ?_
  refine lv_iload hx hb dX0_launch_29 (lv_at hl 0 rfl) ?_
  refine callSLr (rest := [.ref (ad 16)]) SF (c_X9_turnX l D cy tz _ x3 x5 r1 _ h) (cw_RX0_24 hts ⟨Nat.le_of_ble_eq_true rfl, Nat.le_of_ble_eq_true rfl⟩) rfl rfl hK hZ hA hP hD hS rfl hl.1 rfl (Nat.le_of_ble_eq_true rfl) dX0_launch_31 ⟨Nat.zero_le _, Nat.zero_le _⟩ (fun r7 H locs h hP hD hS => ?_)
  refine lv_aload_n hx hb dX0_launch_34 rfl (lv_at hl 1 rfl) ?_
  refine va_get (D := D) (ci := 0) (v := .long x3) (C := RX0) (T := TX0) (N := 6) hx hb hts inlX0 hown hK hP 16 rfl rfl 0 (by decide) (hts _ w_16_17) (fun _ h9 => h9) rfl dX0_launch_35 ?_
  refine lv_lsub hx hb dX0_launch_38 ?_
  refine lv_topl (fun x9 e10 => ?_)
  have h := h x9 e10
  refine va_put (D := D) (ci := 0) (v := .long x9) (ty := .long) (C := RX0) (T := TX0) (N := 6) hx hb hts inlX0 tyX0 tyX0_ok nmX0 hown hK hP hD hS 16 rfl rfl 4 (by decide) (hts _ w_16_19) (fun _ h9 => h9) rfl (by decide +kernel) rfl rfl (Nat.le_of_ble_eq_true rfl) dX0_launch_39 (fun H locs hP hD hS => ?_)
  have hP : va_P D vwCl (wX cy ad (sL (sL (sL st 0 x3) 1 x5) 4 x9)) H := hP
  have hD : va_D A (wX cy ad (sL (sL (sL st 0 x3) 1 x5) 4 x9)) := hD
  refine lv_aload_n hx hb dX0_launch_42 rfl (lv_at hl 1 rfl) ?_
  refine lv_aload_n hx hb dX0_launch_43 rfl (lv_at hl 1 rfl) ?_
  refine va_get (D := D) (ci := 0) (v := .long x3) (C := RX0) (T := TX0) (N := 6) hx hb hts inlX0 hown hK hP 16 rfl rfl 0 (by decide) (hts _ w_16_17) (fun _ h9 => h9) rfl dX0_launch_44 ?_
  refine lv_aload_n hx hb dX0_launch_47 rfl (lv_at hl 1 rfl) ?_
  refine va_get (D := D) (ci := 0) (v := .long x5) (C := RX0) (T := TX0) (N := 6) hx hb hts inlX0 hown hK hP 16 rfl rfl 1 (by decide) (hts _ w_16_18) (fun _ h9 => h9) rfl dX0_launch_48 ?_
  refine lv_iload hx hb dX0_launch_51 (lv_at hl 0 rfl) ?_
  refine callSLr (rest := [.ref (ad 16)]) SF (c_X9_turnY l D cy tz _ x3 x5 r1 _ h) (cw_RX0_33 hts ⟨Nat.le_of_ble_eq_true rfl, Nat.le_of_ble_eq_true rfl⟩) rfl rfl hK hZ hA hP hD hS rfl hl.1 rfl (Nat.le_of_ble_eq_true rfl) dX0_launch_53 ⟨Nat.zero_le _, Nat.zero_le _⟩ (fun r11 H locs h hP hD hS => ?_)
  refine lv_aload_n hx hb dX0_launch_56 rfl (lv_at hl 1 rfl) ?_
  refine va_get (D := D) (ci := 0) (v := .long x5) (C := RX0) (T := TX0) (N := 6) hx hb hts inlX0 hown hK hP 16 rfl rfl 1 (by decide) (hts _ w_16_18) (fun _ h9 => h9) rfl dX0_launch_57 ?_
  refine lv_lsub hx hb dX0_launch_60 ?_
  refine lv_topl (fun x13 e14 => ?_)
  have h := h x13 e14
  refine va_put (D := D) (ci := 0) (v := .long x13) (ty := .long) (C := RX0) (T := TX0) (N := 6) hx hb hts inlX0 tyX0 tyX0_ok nmX0 hown hK hP hD hS 16 rfl rfl 5 (by decide) (hts _ w_16_20) (fun _ h9 => h9) rfl (by decide +kernel) rfl rfl (Nat.le_of_ble_eq_true rfl) dX0_launch_61 (fun H locs hP hD hS => ?_)
  have hP : va_P D vwCl (wX cy ad (sL (sL (sL (sL st 0 x3) 1 x5) 4 x9) 5 x13)) H := hP
  have hD : va_D A (wX cy ad (sL (sL (sL (sL st 0 x3) 1 x5) 4 x9) 5 x13)) := hD
  refine lv_aload_n hx hb dX0_launch_64 rfl (lv_at hl 1 rfl) ?_
  refine lv_iload_n hx hb dX0_launch_65 rfl (lv_at hl 4 rfl) ?_
  refine lv_iload hx hb dX0_launch_66 (lv_at hl 5 rfl) ?_
  refine callVV (rest := []) SF (c_X0_throwAnew l D cy tz ad (sL (sL (sL (sL st 0 x3) 1 x5) 4 x9) 5 x13) a3 a4 _ h) (cw_RX0_39 hts ⟨Nat.le_of_ble_eq_true rfl, Nat.le_of_ble_eq_true rfl⟩) rfl rfl (va_recv hK hP (ci := 0) (q0 := 16) rfl rfl) hK hZ hA hP hD hS rfl hl.1 rfl (Nat.le_of_ble_eq_true rfl) dX0_launch_68 ⟨Nat.zero_le _, Nat.zero_le _⟩ (fun t16 H locs h hP hD hS => ?_)
  exact hret _ _ _ _ _ h hP hD hS dX0_launch_71
-- X0_xBehind
def rm_X0_xBehind : Room := { frames := 0, cells := 0, slots := 0, locals := 0 }
abbrev ws_X0_xBehind : List Cond := .code yX0_xBehind cX0_xBehind 2 (some .long) :: wsL_law
def wp_X0_xBehind (st : St) (a1 : Int32) (post : Int64 → Prop) : Prop := post (gL st 0 + (a1.toInt64 * gL st 2))
set_option maxHeartbeats 4000000 in
set_option maxRecDepth 100000 in
theorem c_X0_xBehind (l : Launch) (D : va_G) (cy : Nat → ClassId) (tz : Nat → Nat) (ad : Nat → Nat) (st : St) (a1 : Int32) (post : Int64 → Prop) (h : wp_X0_xBehind st a1 post) : CtL l D cy tz yX0_xBehind ws_X0_xBehind rm_X0_xBehind [.ref (ad 16), .int a1] (wX cy ad st) (fun _ : Unit => wX cy ad st) (fun r _ => post r) := by
  refine CtL.of (own := RX0) (nm := "xBehind") (lv := [(0, .ref (ad 16)), (1, .int a1)]) (plainFor_of_name (by decide)) rfl rfl (Nat.le_of_ble_eq_true rfl) rfl ?_
  intro p e s m args below meth c A Q ls B hP hD hS hl hret
  obtain ⟨hx, hb, hml, hown, hts, hK, hZ, hA, hnm⟩ := B
  have SF : CallFix p m c cX0_xBehind 2 s args wsL_law RX0 := ⟨hx, hb, hml, hown, hts⟩
  unfold wp_X0_xBehind at h
  refine lv_aload_n hx hb dX0_xBehind_0 rfl (lv_at hl 0 rfl) ?_
  refine va_get (D := D) (ci := 0) (v := .long (gL st 0)) (C := RX0) (T := TX0) (N := 6) hx hb hts inlX0 hown hK hP 16 rfl rfl 0 (by decide) (hts _ w_16_17) (fun _ h9 => h9) rfl dX0_xBehind_1 ?_
  refine lv_iload_n hx hb dX0_xBehind_4 rfl (lv_at hl 1 rfl) ?_
  refine lv_i2l (v := a1.toInt64) hx hb dX0_xBehind_5 rfl ?_
  refine lv_aload_n hx hb dX0_xBehind_6 rfl (lv_at hl 0 rfl) ?_
  refine va_get (D := D) (ci := 0) (v := .long (gL st 2)) (C := RX0) (T := TX0) (N := 6) hx hb hts inlX0 hown hK hP 16 rfl rfl 2 (by decide) (hts _ w_17_4) (fun _ h9 => h9) rfl dX0_xBehind_7 ?_
  refine lv_lmul hx hb dX0_xBehind_10 ?_
  refine lv_ladd hx hb dX0_xBehind_11 ?_
  exact hret _ () _ _ _ _ h hP hD hS dX0_xBehind_12
-- X0_yBehind
def rm_X0_yBehind : Room := { frames := 0, cells := 0, slots := 0, locals := 0 }
abbrev ws_X0_yBehind : List Cond := .code yX0_yBehind cX0_yBehind 2 (some .long) :: wsL_law
def wp_X0_yBehind (st : St) (a1 : Int32) (post : Int64 → Prop) : Prop := post (gL st 1 + (a1.toInt64 * gL st 3))
set_option maxHeartbeats 4000000 in
set_option maxRecDepth 100000 in
theorem c_X0_yBehind (l : Launch) (D : va_G) (cy : Nat → ClassId) (tz : Nat → Nat) (ad : Nat → Nat) (st : St) (a1 : Int32) (post : Int64 → Prop) (h : wp_X0_yBehind st a1 post) : CtL l D cy tz yX0_yBehind ws_X0_yBehind rm_X0_yBehind [.ref (ad 16), .int a1] (wX cy ad st) (fun _ : Unit => wX cy ad st) (fun r _ => post r) := by
  refine CtL.of (own := RX0) (nm := "yBehind") (lv := [(0, .ref (ad 16)), (1, .int a1)]) (plainFor_of_name (by decide)) rfl rfl (Nat.le_of_ble_eq_true rfl) rfl ?_
  intro p e s m args below meth c A Q ls B hP hD hS hl hret
  obtain ⟨hx, hb, hml, hown, hts, hK, hZ, hA, hnm⟩ := B
  have SF : CallFix p m c cX0_yBehind 2 s args wsL_law RX0 := ⟨hx, hb, hml, hown, hts⟩
  unfold wp_X0_yBehind at h
  refine lv_aload_n hx hb dX0_yBehind_0 rfl (lv_at hl 0 rfl) ?_
  refine va_get (D := D) (ci := 0) (v := .long (gL st 1)) (C := RX0) (T := TX0) (N := 6) hx hb hts inlX0 hown hK hP 16 rfl rfl 1 (by decide) (hts _ w_16_18) (fun _ h9 => h9) rfl dX0_yBehind_1 ?_
  refine lv_iload_n hx hb dX0_yBehind_4 rfl (lv_at hl 1 rfl) ?_
  refine lv_i2l (v := a1.toInt64) hx hb dX0_yBehind_5 rfl ?_
  refine lv_aload_n hx hb dX0_yBehind_6 rfl (lv_at hl 0 rfl) ?_
  refine va_get (D := D) (ci := 0) (v := .long (gL st 3)) (C := RX0) (T := TX0) (N := 6) hx hb hts inlX0 hown hK hP 16 rfl rfl 3 (by decide) (hts _ w_17_5) (fun _ h9 => h9) rfl dX0_yBehind_7 ?_
  refine lv_lmul hx hb dX0_yBehind_10 ?_
  refine lv_ladd hx hb dX0_yBehind_11 ?_
  exact hret _ () _ _ _ _ h hP hD hS dX0_yBehind_12
-- X0_gap
def rm_X0_gap : Room := { frames := 1, cells := 0, slots := 0, locals := 21 }
abbrev ws_X0_gap : List Cond := .code yX0_gap cX0_gap 3 (some .long) :: wsL_law
theorem cw_RX0_49 {R : Room} {s : State} {args : Array Value} (hts : ∀ w ∈ wsL_law, w.before args s = true) (hR : rm_X0_xBehind.frames + 1 ≤ R.frames ∧ 8 + (2 + 11) + rm_X0_xBehind.locals ≤ R.locals) : CallW R s args RX0 RX0 49 yX0_xBehind cX0_xBehind 2 (some .long) ws_X0_xBehind rm_X0_xBehind rm_X0_xBehind.cells rm_X0_xBehind.slots 1 := cwV 1 hts (gdV w_20_6 w_17_7 w_17_8 w_2_3 w_17_9) rfl rfl rfl (by decide +kernel) hR
theorem cw_RX0_65 {R : Room} {s : State} {args : Array Value} (hts : ∀ w ∈ wsL_law, w.before args s = true) (hR : rm_X0_yBehind.frames + 1 ≤ R.frames ∧ 8 + (2 + 11) + rm_X0_yBehind.locals ≤ R.locals) : CallW R s args RX0 RX0 65 yX0_yBehind cX0_yBehind 2 (some .long) ws_X0_yBehind rm_X0_yBehind rm_X0_yBehind.cells rm_X0_yBehind.slots 1 := cwV 1 hts (gdV w_20_7 w_17_11 w_17_12 w_2_3 w_17_13) rfl rfl rfl (by decide +kernel) hR
def wp_X0_gap (st : St) (a2 : Int32) (post : Int64 → Prop) : Prop := wp_X0_xBehind st a2 (fun r1 => vp_in a2 61 ∧ (wp_X0_yBehind st a2 (fun r3 => vp_in a2 61 ∧ (post (if (if 0 < (r3 - (gB st 1 a2.toNatClampNeg)) then (r3 - (gB st 1 a2.toNatClampNeg)) else -(r3 - (gB st 1 a2.toNatClampNeg))) < (if 0 < (r1 - (gB st 0 a2.toNatClampNeg)) then (r1 - (gB st 0 a2.toNatClampNeg)) else -(r1 - (gB st 0 a2.toNatClampNeg))) then (if 0 < (r1 - (gB st 0 a2.toNatClampNeg)) then (r1 - (gB st 0 a2.toNatClampNeg)) else -(r1 - (gB st 0 a2.toNatClampNeg))) else (if 0 < (r3 - (gB st 1 a2.toNatClampNeg)) then (r3 - (gB st 1 a2.toNatClampNeg)) else -(r3 - (gB st 1 a2.toNatClampNeg))))))))
set_option maxHeartbeats 4000000 in
set_option maxRecDepth 100000 in
theorem c_X0_gap (l : Launch) (D : va_G) (cy : Nat → ClassId) (tz : Nat → Nat) (ad : Nat → Nat) (st : St) (a2 : Int32) (post : Int64 → Prop) (h : wp_X0_gap st a2 post) : CtL l D cy tz yX0_gap ws_X0_gap rm_X0_gap [.ref (ad 16), .ref (ad 17), .int a2] (wX cy ad st) (fun _ : Unit => wX cy ad st) (fun r _ => post r) := by
  refine CtL.of (own := RX0) (nm := "gap") (lv := [(0, .ref (ad 16)), (1, .ref (ad 17)), (2, .int a2)]) (plainFor_of_name (by decide)) rfl rfl (Nat.le_of_ble_eq_true rfl) rfl ?_
  intro p e s m args below meth c A Q ls B hP hD hS hl hret
  obtain ⟨hx, hb, hml, hown, hts, hK, hZ, hA, hnm⟩ := B
  have SF : CallFix p m c cX0_gap 3 s args wsL_law RX0 := ⟨hx, hb, hml, hown, hts⟩
  unfold wp_X0_gap at h
  refine lv_aload_n hx hb dX0_gap_0 rfl (lv_at hl 0 rfl) ?_
  refine lv_iload_n hx hb dX0_gap_1 rfl (lv_at hl 2 rfl) ?_
  refine callVLr (rest := []) SF (c_X0_xBehind l D cy tz ad st a2 _ h) (cw_RX0_49 hts ⟨Nat.le_of_ble_eq_true rfl, Nat.le_of_ble_eq_true rfl⟩) rfl rfl (va_recv hK hP (ci := 0) (q0 := 16) rfl rfl) hK hZ hA hP hD hS rfl hl.1 rfl (Nat.le_of_ble_eq_true rfl) dX0_gap_2 ⟨Nat.zero_le _, Nat.zero_le _⟩ (fun r1 H locs h hP hD hS => ?_)
  refine lv_aload_n hx hb dX0_gap_5 rfl (lv_at hl 1 rfl) ?_
  refine va_get (D := D) (ci := 8) (v := .ref (ad 18)) (C := RX8) (T := TX8) (N := 2) hx hb hts inlX8 hown hK hP 17 rfl rfl 0 (by decide) (hts _ w_19_22) (fun _ h9 => h9) rfl dX0_gap_6 ?_
  refine lv_iload_n hx hb dX0_gap_9 rfl (lv_at hl 2 rfl) ?_
  refine va_lald (f := gB st 0) (n := 61) hx hb hK hP 18 1 rfl rfl h.1 dX0_gap_10 ?_
  have h := h.2
  refine lv_lsub hx hb dX0_gap_11 ?_
  refine va_mabs_long hx hb (hml.trans hl.1.symm) hown (hts _ w_19_23) (hts _ w_20_0) (hts _ w_11_4) (hts _ w_20_1) (Nat.le_of_ble_eq_true rfl) (Nat.le_of_ble_eq_true rfl) (Nat.zero_le _) (Nat.zero_le _) dX0_gap_12 ?_
  refine lv_aload_n hx hb dX0_gap_15 rfl (lv_at hl 0 rfl) ?_
  refine lv_iload_n hx hb dX0_gap_16 rfl (lv_at hl 2 rfl) ?_
  refine callVLr (rest := [.long (if 0 < (r1 - (gB st 0 a2.toNatClampNeg)) then (r1 - (gB st 0 a2.toNatClampNeg)) else -(r1 - (gB st 0 a2.toNatClampNeg)))]) SF (c_X0_yBehind l D cy tz ad st a2 _ h) (cw_RX0_65 hts ⟨Nat.le_of_ble_eq_true rfl, Nat.le_of_ble_eq_true rfl⟩) rfl rfl (va_recv hK hP (ci := 0) (q0 := 16) rfl rfl) hK hZ hA hP hD hS rfl hl.1 rfl (Nat.le_of_ble_eq_true rfl) dX0_gap_17 ⟨Nat.zero_le _, Nat.zero_le _⟩ (fun r3 H locs h hP hD hS => ?_)
  refine lv_aload_n hx hb dX0_gap_20 rfl (lv_at hl 1 rfl) ?_
  refine va_get (D := D) (ci := 8) (v := .ref (ad 19)) (C := RX8) (T := TX8) (N := 2) hx hb hts inlX8 hown hK hP 17 rfl rfl 1 (by decide) (hts _ w_20_2) (fun _ h9 => h9) rfl dX0_gap_21 ?_
  refine lv_iload_n hx hb dX0_gap_24 rfl (lv_at hl 2 rfl) ?_
  refine va_lald (f := gB st 1) (n := 61) hx hb hK hP 19 1 rfl rfl h.1 dX0_gap_25 ?_
  have h := h.2
  refine lv_lsub hx hb dX0_gap_26 ?_
  refine va_mabs_long hx hb (hml.trans hl.1.symm) hown (hts _ w_19_23) (hts _ w_20_0) (hts _ w_11_4) (hts _ w_20_1) (Nat.le_of_ble_eq_true rfl) (Nat.le_of_ble_eq_true rfl) (Nat.zero_le _) (Nat.zero_le _) dX0_gap_27 ?_
  refine va_mmax_long hx hb (hml.trans hl.1.symm) hown (hts _ w_20_3) (hts _ w_20_4) (hts _ w_11_4) (hts _ w_20_5) (Nat.le_of_ble_eq_true rfl) (Nat.le_of_ble_eq_true rfl) (Nat.zero_le _) (Nat.zero_le _) dX0_gap_30 ?_
  exact hret _ () _ _ _ _ h hP hD hS dX0_gap_33
-- X0_tickCaught
def rm_X0_tickCaught : Room := { frames := 2, cells := 0, slots := 0, locals := 43 }
abbrev ws_X0_tickCaught : List Cond := .code yX0_tickCaught cX0_tickCaught 4 (some .int) :: wsL_law
theorem cw_RX0_75 {R : Room} {s : State} {args : Array Value} (hts : ∀ w ∈ wsL_law, w.before args s = true) (hR : rm_X0_gap.frames + 1 ≤ R.frames ∧ 8 + (3 + 11) + rm_X0_gap.locals ≤ R.locals) : CallW R s args RX0 RX0 75 yX0_gap cX0_gap 3 (some .long) ws_X0_gap rm_X0_gap rm_X0_gap.cells rm_X0_gap.slots 2 := cwV 2 hts (gdV w_19_18 w_19_19 w_19_20 w_2_3 w_19_21) rfl rfl rfl (by decide +kernel) hR
def wp_X0_tickCaught_L2 (post : Int32 → Prop) (K : Prop) (st : St) (a2 : Int32) : Nat → Int32 → Prop
  | 0, _ => False
  | n2 + 1, v1 => ((60 < v1) → (K)) ∧ ((¬ 60 < v1) → (wp_X0_gap st v1 (fun r4 => ((a2.toInt64 < r4) → (∀ x7 : Int32, x7 = v1 + 1 → (wp_X0_tickCaught_L2 post K st a2 n2 x7))) ∧ ((¬ a2.toInt64 < r4) → (post v1)))))
def wp_X0_tickCaught (st : St) (a2 : Int32) (post : Int32 → Prop) : Prop := ∃ m2 : Nat, wp_X0_tickCaught_L2 post (post (-6)) st a2 m2 1
set_option maxHeartbeats 4000000 in
set_option maxRecDepth 100000 in
theorem c_X0_tickCaught (l : Launch) (D : va_G) (cy : Nat → ClassId) (tz : Nat → Nat) (ad : Nat → Nat) (st : St) (a2 : Int32) (post : Int32 → Prop) (h : wp_X0_tickCaught st a2 post) : CtI l D cy tz yX0_tickCaught ws_X0_tickCaught rm_X0_tickCaught [.ref (ad 16), .ref (ad 17), .int a2] (wX cy ad st) (fun _ : Unit => wX cy ad st) (fun r _ => post r) := by
  refine CtI.of (own := RX0) (nm := "tickCaught") (lv := [(0, .ref (ad 16)), (1, .ref (ad 17)), (2, .int a2)]) (plainFor_of_name (by decide)) rfl rfl (Nat.le_of_ble_eq_true rfl) rfl ?_
  intro p e s m args below meth c A Q ls B hP hD hS hl hret
  obtain ⟨hx, hb, hml, hown, hts, hK, hZ, hA, hnm⟩ := B
  have SF : CallFix p m c cX0_tickCaught 4 s args wsL_law RX0 := ⟨hx, hb, hml, hown, hts⟩
  unfold wp_X0_tickCaught at h
  refine lv_iconst (v := 1) hx hb dX0_tickCaught_0 (by decide) ?_
  refine lv_istore_n (lv' := [(3, .int 1), (0, .ref (ad 16)), (1, .ref (ad 17)), (2, .int a2)]) hx hb dX0_tickCaught_1 rfl hl (by decide) rfl (fun ls hl => ?_)
  have loop2 : ∀ (K : Prop), (∀ (H : Heap) (locs : List Loc) (ls : Array Slot), K → va_P D vwCl (wX cy ad st) H → va_D A (wX cy ad st) → va_S A s.heap H locs → lv_has ls 4 [] → W p l e rm_X0_tickCaught s m args below meth c H locs 0 0 Q (F0 m 28 ls [])) → ∀ (n : Nat) (v1 : Int32) (H : Heap) (locs : List Loc) (ls : Array Slot), wp_X0_tickCaught_L2 post K st a2 n v1 → va_P D vwCl (wX cy ad st) H → va_D A (wX cy ad st) → va_S A s.heap H locs → lv_has ls 4 [(0, .ref (ad 16)), (1, .ref (ad 17)), (2, .int a2), (3, .int v1)] → W p l e rm_X0_tickCaught s m args below meth c H locs 0 0 Q (F0 m 2 ls []) := by
    intro K hE2 n
    induction n with
    | zero => intro v1 H locs ls h; exact h.elim
    | succ n ih2 =>
      intro v1 H locs ls h hP hD hS hl
      rw [wp_X0_tickCaught_L2] at h
      refine lv_iload_n hx hb dX0_tickCaught_2 rfl (lv_at hl 3 rfl) ?_
      refine lv_bipush (v := 60) hx hb dX0_tickCaught_3 (by decide) ?_
      refine lv_icmp_gt (tgt := 28) hx hb dX0_tickCaught_5 (by decide) (fun c3 => ?_) (fun c3 => ?_)
      · have h := h.1 c3
        exact hE2 _ _ _ h hP hD hS (lv_sub hl [] rfl)
      · have h := h.2 c3
        refine lv_aload_n hx hb dX0_tickCaught_8 rfl (lv_at hl 0 rfl) ?_
        refine lv_aload_n hx hb dX0_tickCaught_9 rfl (lv_at hl 1 rfl) ?_
        refine lv_iload_n hx hb dX0_tickCaught_10 rfl (lv_at hl 3 rfl) ?_
        refine callVLr (rest := []) SF (c_X0_gap l D cy tz ad st v1 _ h) (cw_RX0_75 hts ⟨Nat.le_of_ble_eq_true rfl, Nat.le_of_ble_eq_true rfl⟩) rfl rfl (va_recv hK hP (ci := 0) (q0 := 16) rfl rfl) hK hZ hA hP hD hS rfl hl.1 rfl (Nat.le_of_ble_eq_true rfl) dX0_tickCaught_11 ⟨Nat.zero_le _, Nat.zero_le _⟩ (fun r4 H locs h hP hD hS => ?_)
        refine lv_iload_n hx hb dX0_tickCaught_14 rfl (lv_at hl 2 rfl) ?_
        refine lv_i2l (v := a2.toInt64) hx hb dX0_tickCaught_15 rfl ?_
        refine W.lcmp hx hb dX0_tickCaught_16 ?_
        refine lv_if_gt (tgt := 22) hx hb dX0_tickCaught_17 (by decide) (fun c6 => ?_) (fun c6 => ?_)
        · have h := h.1 ((lg_cmp_gt _ _).mp c6)
          obtain ⟨x7, e8⟩ : ∃ z : Int32, z = v1 + 1 := ⟨_, rfl⟩
          have h := h x7 e8
          refine lv_iinc (v := x7) (lv' := [(3, .int x7), (0, .ref (ad 16)), (1, .ref (ad 17)), (2, .int a2)]) hx hb dX0_tickCaught_22 hl (k := 3) rfl (by rw [e8]; rfl) (by decide) rfl (fun ls hl => ?_)
          refine lv_goto (tgt := 2) hx hb dX0_tickCaught_25 (by decide) ?_
          exact ih2 _ _ _ _ h hP hD hS (lv_sub hl [1, 2, 3, 0] rfl)
        · have h := h.2 (fun z => c6 ((lg_cmp_gt _ _).mpr z))
          refine lv_iload_n hx hb dX0_tickCaught_20 rfl (lv_at hl 3 rfl) ?_
          exact hret _ () _ _ _ _ rfl h hP hD hS dX0_tickCaught_21
  obtain ⟨n, h⟩ := h
  refine loop2 _ ?_ n _ _ _ _ h hP hD hS (lv_sub hl [1, 2, 3, 0] rfl)
  intro H locs ls h hP hD hS hl
  refine lv_bipush (v := (-6)) hx hb dX0_tickCaught_28 (by decide) ?_
  exact hret _ () _ _ _ _ rfl h hP hD hS dX0_tickCaught_30
-- X0_tickNearest
def rm_X0_tickNearest : Room := { frames := 2, cells := 0, slots := 0, locals := 43 }
abbrev ws_X0_tickNearest : List Cond := .code yX0_tickNearest cX0_tickNearest 8 (some .int) :: wsL_law
def wp_X0_tickNearest_L12 (post : Int32 → Prop) (K : Int32 → Prop) (st : St) : Nat → Int32 → Int64 → Int32 → Prop
  | 0, _, _, _ => False
  | n12 + 1, v3, v4, v5 => ((60 < v5) → (K v3)) ∧ ((¬ 60 < v5) → (wp_X0_gap st v5 (fun r8 => ((v4 ≤ r8) → (∀ x11 : Int32, x11 = v5 + 1 → (wp_X0_tickNearest_L12 post K st n12 v3 v4 x11))) ∧ ((¬ v4 ≤ r8) → (∀ x13 : Int32, x13 = v5 + 1 → (wp_X0_tickNearest_L12 post K st n12 v5 r8 x13))))))
def wp_X0_tickNearest (st : St) (post : Int32 → Prop) : Prop := wp_X0_gap st 1 (fun r1 => ∃ m12 : Nat, wp_X0_tickNearest_L12 post (fun v15 => post v15) st m12 1 r1 2)
set_option maxHeartbeats 4000000 in
set_option maxRecDepth 100000 in
theorem c_X0_tickNearest (l : Launch) (D : va_G) (cy : Nat → ClassId) (tz : Nat → Nat) (ad : Nat → Nat) (st : St) (post : Int32 → Prop) (h : wp_X0_tickNearest st post) : CtI l D cy tz yX0_tickNearest ws_X0_tickNearest rm_X0_tickNearest [.ref (ad 16), .ref (ad 17)] (wX cy ad st) (fun _ : Unit => wX cy ad st) (fun r _ => post r) := by
  refine CtI.of (own := RX0) (nm := "tickNearest") (lv := [(0, .ref (ad 16)), (1, .ref (ad 17))]) (plainFor_of_name (by decide)) rfl rfl (Nat.le_of_ble_eq_true rfl) rfl ?_
  intro p e s m args below meth c A Q ls B hP hD hS hl hret
  obtain ⟨hx, hb, hml, hown, hts, hK, hZ, hA, hnm⟩ := B
  have SF : CallFix p m c cX0_tickNearest 8 s args wsL_law RX0 := ⟨hx, hb, hml, hown, hts⟩
  unfold wp_X0_tickNearest at h
  refine lv_iconst (v := 1) hx hb dX0_tickNearest_0 (by decide) ?_
  refine lv_istore_n (lv' := [(2, .int 1), (0, .ref (ad 16)), (1, .ref (ad 17))]) hx hb dX0_tickNearest_1 rfl hl (by decide) rfl (fun ls hl => ?_)
  refine lv_aload_n hx hb dX0_tickNearest_2 rfl (lv_at hl 1 rfl) ?_
  refine lv_aload_n hx hb dX0_tickNearest_3 rfl (lv_at hl 2 rfl) ?_
  refine lv_iconst (v := 1) hx hb dX0_tickNearest_4 (by decide) ?_
  refine callVLr (rest := []) SF (c_X0_gap l D cy tz ad st 1 _ h) (cw_RX0_75 hts ⟨Nat.le_of_ble_eq_true rfl, Nat.le_of_ble_eq_true rfl⟩) rfl rfl (va_recv hK hP (ci := 0) (q0 := 16) rfl rfl) hK hZ hA hP hD hS rfl hl.1 rfl (Nat.le_of_ble_eq_true rfl) dX0_tickNearest_5 ⟨Nat.zero_le _, Nat.zero_le _⟩ (fun r1 H locs h hP hD hS => ?_)
  refine lv_lstore_n (lv' := [(3, .long r1), (2, .int 1), (0, .ref (ad 16)), (1, .ref (ad 17))]) hx hb dX0_tickNearest_8 rfl hl (by decide) rfl (fun ls hl => ?_)
  refine lv_iconst (v := 2) hx hb dX0_tickNearest_9 (by decide) ?_
  refine lv_istore (lv' := [(5, .int 2), (3, .long r1), (2, .int 1), (0, .ref (ad 16)), (1, .ref (ad 17))]) hx hb dX0_tickNearest_10 hl (by decide) rfl (fun ls hl => ?_)
  have loop12 : ∀ (K : Int32 → Prop), (∀ (v15 : Int32) (H : Heap) (locs : List Loc) (ls : Array Slot), K v15 → va_P D vwCl (wX cy ad st) H → va_D A (wX cy ad st) → va_S A s.heap H locs → lv_has ls 8 [(2, .int v15)] → W p l e rm_X0_tickNearest s m args below meth c H locs 0 0 Q (F0 m 47 ls [])) → ∀ (n : Nat) (v3 : Int32) (v4 : Int64) (v5 : Int32) (H : Heap) (locs : List Loc) (ls : Array Slot), wp_X0_tickNearest_L12 post K st n v3 v4 v5 → va_P D vwCl (wX cy ad st) H → va_D A (wX cy ad st) → va_S A s.heap H locs → lv_has ls 8 [(0, .ref (ad 16)), (1, .ref (ad 17)), (2, .int v3), (3, .long v4), (5, .int v5)] → W p l e rm_X0_tickNearest s m args below meth c H locs 0 0 Q (F0 m 12 ls []) := by
    intro K hE12 n
    induction n with
    | zero => intro v3 v4 v5 H locs ls h; exact h.elim
    | succ n ih12 =>
      intro v3 v4 v5 H locs ls h hP hD hS hl
      rw [wp_X0_tickNearest_L12] at h
      refine lv_iload hx hb dX0_tickNearest_12 (lv_at hl 4 rfl) ?_
      refine lv_bipush (v := 60) hx hb dX0_tickNearest_14 (by decide) ?_
      refine lv_icmp_gt (tgt := 47) hx hb dX0_tickNearest_16 (by decide) (fun c7 => ?_) (fun c7 => ?_)
      · have h := h.1 c7
        exact hE12 _ _ _ _ h hP hD hS (lv_sub hl [2] rfl)
      · have h := h.2 c7
        refine lv_aload_n hx hb dX0_tickNearest_19 rfl (lv_at hl 0 rfl) ?_
        refine lv_aload_n hx hb dX0_tickNearest_20 rfl (lv_at hl 1 rfl) ?_
        refine lv_iload hx hb dX0_tickNearest_21 (lv_at hl 4 rfl) ?_
        refine callVLr (rest := []) SF (c_X0_gap l D cy tz ad st v5 _ h) (cw_RX0_75 hts ⟨Nat.le_of_ble_eq_true rfl, Nat.le_of_ble_eq_true rfl⟩) rfl rfl (va_recv hK hP (ci := 0) (q0 := 16) rfl rfl) hK hZ hA hP hD hS rfl hl.1 rfl (Nat.le_of_ble_eq_true rfl) dX0_tickNearest_23 ⟨Nat.zero_le _, Nat.zero_le _⟩ (fun r8 H locs h hP hD hS => ?_)
        refine lv_lstore (lv' := [(6, .long r8), (0, .ref (ad 16)), (1, .ref (ad 17)), (2, .int v3), (3, .long v4), (5, .int v5)]) hx hb dX0_tickNearest_26 hl (by decide) rfl (fun ls hl => ?_)
        refine lv_lload hx hb dX0_tickNearest_28 (lv_at hl 0 rfl) ?_
        refine lv_lload_n hx hb dX0_tickNearest_30 rfl (lv_at hl 4 rfl) ?_
        refine W.lcmp hx hb dX0_tickNearest_31 ?_
        refine lv_if_ge (tgt := 41) hx hb dX0_tickNearest_32 (by decide) (fun c10 => ?_) (fun c10 => ?_)
        · have h := h.1 ((lg_cmp_ge _ _).mp c10)
          obtain ⟨x11, e12⟩ : ∃ z : Int32, z = v5 + 1 := ⟨_, rfl⟩
          have h := h x11 e12
          refine lv_iinc (v := x11) (lv' := [(5, .int x11), (6, .long r8), (0, .ref (ad 16)), (1, .ref (ad 17)), (2, .int v3), (3, .long v4)]) hx hb dX0_tickNearest_41 hl (k := 5) rfl (by rw [e12]; rfl) (by decide) rfl (fun ls hl => ?_)
          refine lv_goto (tgt := 12) hx hb dX0_tickNearest_44 (by decide) ?_
          exact ih12 _ _ _ _ _ _ h hP hD hS (lv_sub hl [2, 3, 4, 5, 0] rfl)
        · have h := h.2 (fun z => c10 ((lg_cmp_ge _ _).mpr z))
          refine lv_lload hx hb dX0_tickNearest_35 (lv_at hl 0 rfl) ?_
          refine lv_lstore_n (lv' := [(3, .long r8), (6, .long r8), (0, .ref (ad 16)), (1, .ref (ad 17)), (2, .int v3), (5, .int v5)]) hx hb dX0_tickNearest_37 rfl hl (by decide) rfl (fun ls hl => ?_)
          refine lv_iload hx hb dX0_tickNearest_38 (lv_at hl 5 rfl) ?_
          refine lv_istore_n (lv' := [(2, .int v5), (3, .long r8), (6, .long r8), (0, .ref (ad 16)), (1, .ref (ad 17)), (5, .int v5)]) hx hb dX0_tickNearest_40 rfl hl (by decide) rfl (fun ls hl => ?_)
          obtain ⟨x13, e14⟩ : ∃ z : Int32, z = v5 + 1 := ⟨_, rfl⟩
          have h := h x13 e14
          refine lv_iinc (v := x13) (lv' := [(5, .int x13), (2, .int v5), (3, .long r8), (6, .long r8), (0, .ref (ad 16)), (1, .ref (ad 17))]) hx hb dX0_tickNearest_41 hl (k := 5) rfl (by rw [e14]; rfl) (by decide) rfl (fun ls hl => ?_)
          refine lv_goto (tgt := 12) hx hb dX0_tickNearest_44 (by decide) ?_
          exact ih12 _ _ _ _ _ _ h hP hD hS (lv_sub hl [4, 5, 1, 2, 0] rfl)
  obtain ⟨n, h⟩ := h
  refine loop12 _ ?_ n _ _ _ _ _ _ h hP hD hS (lv_sub hl [3, 4, 2, 1, 0] rfl)
  intro v15 H locs ls h hP hD hS hl
  refine lv_iload_n hx hb dX0_tickNearest_47 rfl (lv_at hl 0 rfl) ?_
  exact hret _ () _ _ _ _ rfl h hP hD hS dX0_tickNearest_48
-- X0_isRightOf
def rm_X0_isRightOf : Room := { frames := 1, cells := 0, slots := 0, locals := 21 }
abbrev ws_X0_isRightOf : List Cond := .code yX0_isRightOf cX0_isRightOf 3 (some .boolean) :: wsL_law
def wp_X0_isRightOf (st : St) (a2 : Int32) (post : Int32 → Prop) : Prop := vp_in a2 61 ∧ (wp_X0_yBehind st a2 (fun r1 => vp_in a2 61 ∧ (wp_X0_xBehind st a2 (fun r3 => ((0 ≤ (((gB st 0 a2.toNatClampNeg) * r1) - ((gB st 1 a2.toNatClampNeg) * r3))) → (post 0)) ∧ ((¬ 0 ≤ (((gB st 0 a2.toNatClampNeg) * r1) - ((gB st 1 a2.toNatClampNeg) * r3))) → (post 1))))))
set_option maxHeartbeats 4000000 in
set_option maxRecDepth 100000 in
theorem c_X0_isRightOf (l : Launch) (D : va_G) (cy : Nat → ClassId) (tz : Nat → Nat) (ad : Nat → Nat) (st : St) (a2 : Int32) (post : Int32 → Prop) (h : wp_X0_isRightOf st a2 post) : CtI l D cy tz yX0_isRightOf ws_X0_isRightOf rm_X0_isRightOf [.ref (ad 16), .ref (ad 17), .int a2] (wX cy ad st) (fun _ : Unit => wX cy ad st) (fun r _ => post r) := by
  refine CtI.of (own := RX0) (nm := "isRightOf") (lv := [(0, .ref (ad 16)), (1, .ref (ad 17)), (2, .int a2)]) (plainFor_of_name (by decide)) rfl rfl (Nat.le_of_ble_eq_true rfl) rfl ?_
  intro p e s m args below meth c A Q ls B hP hD hS hl hret
  obtain ⟨hx, hb, hml, hown, hts, hK, hZ, hA, hnm⟩ := B
  have SF : CallFix p m c cX0_isRightOf 3 s args wsL_law RX0 := ⟨hx, hb, hml, hown, hts⟩
  unfold wp_X0_isRightOf at h
  refine lv_aload_n hx hb dX0_isRightOf_0 rfl (lv_at hl 1 rfl) ?_
  refine va_get (D := D) (ci := 8) (v := .ref (ad 18)) (C := RX8) (T := TX8) (N := 2) hx hb hts inlX8 hown hK hP 17 rfl rfl 0 (by decide) (hts _ w_19_22) (fun _ h9 => h9) rfl dX0_isRightOf_1 ?_
  refine lv_iload_n hx hb dX0_isRightOf_4 rfl (lv_at hl 2 rfl) ?_
  refine va_lald (f := gB st 0) (n := 61) hx hb hK hP 18 1 rfl rfl h.1 dX0_isRightOf_5 ?_
  have h := h.2
  refine lv_aload_n hx hb dX0_isRightOf_6 rfl (lv_at hl 0 rfl) ?_
  refine lv_iload_n hx hb dX0_isRightOf_7 rfl (lv_at hl 2 rfl) ?_
  refine callVLr (rest := [.long (gB st 0 a2.toNatClampNeg)]) SF (c_X0_yBehind l D cy tz ad st a2 _ h) (cw_RX0_65 hts ⟨Nat.le_of_ble_eq_true rfl, Nat.le_of_ble_eq_true rfl⟩) rfl rfl (va_recv hK hP (ci := 0) (q0 := 16) rfl rfl) hK hZ hA hP hD hS rfl hl.1 rfl (Nat.le_of_ble_eq_true rfl) dX0_isRightOf_8 ⟨Nat.zero_le _, Nat.zero_le _⟩ (fun r1 H locs h hP hD hS => ?_)
  refine lv_lmul hx hb dX0_isRightOf_11 ?_
  refine lv_aload_n hx hb dX0_isRightOf_12 rfl (lv_at hl 1 rfl) ?_
  refine va_get (D := D) (ci := 8) (v := .ref (ad 19)) (C := RX8) (T := TX8) (N := 2) hx hb hts inlX8 hown hK hP 17 rfl rfl 1 (by decide) (hts _ w_20_2) (fun _ h9 => h9) rfl dX0_isRightOf_13 ?_
  refine lv_iload_n hx hb dX0_isRightOf_16 rfl (lv_at hl 2 rfl) ?_
  refine va_lald (f := gB st 1) (n := 61) hx hb hK hP 19 1 rfl rfl h.1 dX0_isRightOf_17 ?_
  have h := h.2
  refine lv_aload_n hx hb dX0_isRightOf_18 rfl (lv_at hl 0 rfl) ?_
  refine lv_iload_n hx hb dX0_isRightOf_19 rfl (lv_at hl 2 rfl) ?_
  refine callVLr (rest := [.long (gB st 1 a2.toNatClampNeg), .long ((gB st 0 a2.toNatClampNeg) * r1)]) SF (c_X0_xBehind l D cy tz ad st a2 _ h) (cw_RX0_49 hts ⟨Nat.le_of_ble_eq_true rfl, Nat.le_of_ble_eq_true rfl⟩) rfl rfl (va_recv hK hP (ci := 0) (q0 := 16) rfl rfl) hK hZ hA hP hD hS rfl hl.1 rfl (Nat.le_of_ble_eq_true rfl) dX0_isRightOf_20 ⟨Nat.zero_le _, Nat.zero_le _⟩ (fun r3 H locs h hP hD hS => ?_)
  refine lv_lmul hx hb dX0_isRightOf_23 ?_
  refine lv_lsub hx hb dX0_isRightOf_24 ?_
  refine lv_lconst (v := 0) hx hb dX0_isRightOf_25 (by decide) ?_
  refine W.lcmp hx hb dX0_isRightOf_26 ?_
  refine lv_if_ge (tgt := 34) hx hb dX0_isRightOf_27 (by decide) (fun c5 => ?_) (fun c5 => ?_)
  · have h := h.1 ((lg_cmp_ge _ _).mp c5)
    refine lv_iconst (v := 0) hx hb dX0_isRightOf_34 (by decide) ?_
    exact hret _ () _ _ _ _ rfl h hP hD hS dX0_isRightOf_35
  · have h := h.2 (fun z => c5 ((lg_cmp_ge _ _).mpr z))
    refine lv_iconst (v := 1) hx hb dX0_isRightOf_30 (by decide) ?_
    refine lv_goto (tgt := 35) hx hb dX0_isRightOf_31 (by decide) ?_
    exact hret _ () _ _ _ _ rfl h hP hD hS dX0_isRightOf_35
-- X5_wayBack
def rm_X5_wayBack : Room := { frames := 3, cells := 0, slots := 0, locals := 63 }
abbrev ws_X5_wayBack : List Cond := .code yX5_wayBack cX5_wayBack 2 (some .int) :: wsL_law
theorem cw_RX5_52 {R : Room} {s : State} {args : Array Value} (hts : ∀ w ∈ wsL_law, w.before args s = true) (hR : rm_X5_wayBehind.frames + 1 ≤ R.frames ∧ 8 + (2 + 11) + rm_X5_wayBehind.locals ≤ R.locals) : CallW R s args RX5 RX5 52 yX5_wayBehind cX5_wayBehind 2 (some .int) ws_X5_wayBehind rm_X5_wayBehind rm_X5_wayBehind.cells rm_X5_wayBehind.slots 1 := cwV 1 hts (gdV w_17_18 w_15_3 w_15_4 w_1_23 w_15_5) rfl rfl rfl (by decide +kernel) hR
def wp_X5_wayBack (st : St) (a1 : Int32) (post : Int32 → Prop) : Prop := wp_X5_wayBehind st a1 (fun r1 => post ((24 - r1) - (24 - r1) / 24 * 24))
set_option maxHeartbeats 4000000 in
set_option maxRecDepth 100000 in
theorem c_X5_wayBack (l : Launch) (D : va_G) (cy : Nat → ClassId) (tz : Nat → Nat) (ad : Nat → Nat) (st : St) (a1 : Int32) (post : Int32 → Prop) (h : wp_X5_wayBack st a1 post) : CtI l D cy tz yX5_wayBack ws_X5_wayBack rm_X5_wayBack [.ref (ad 13), .int a1] (wX cy ad st) (fun _ : Unit => wX cy ad st) (fun r _ => post r) := by
  refine CtI.of (own := RX5) (nm := "wayBack") (lv := [(0, .ref (ad 13)), (1, .int a1)]) (plainFor_of_name (by decide)) rfl rfl (Nat.le_of_ble_eq_true rfl) rfl ?_
  intro p e s m args below meth c A Q ls B hP hD hS hl hret
  obtain ⟨hx, hb, hml, hown, hts, hK, hZ, hA, hnm⟩ := B
  have SF : CallFix p m c cX5_wayBack 2 s args wsL_law RX5 := ⟨hx, hb, hml, hown, hts⟩
  unfold wp_X5_wayBack at h
  refine lv_bipush (v := 24) hx hb dX5_wayBack_0 (by decide) ?_
  refine lv_aload_n hx hb dX5_wayBack_2 rfl (lv_at hl 0 rfl) ?_
  refine lv_iload_n hx hb dX5_wayBack_3 rfl (lv_at hl 1 rfl) ?_
  refine callVIr (rest := [.int 24]) SF (c_X5_wayBehind l D cy tz ad st a1 _ h) (cw_RX5_52 hts ⟨Nat.le_of_ble_eq_true rfl, Nat.le_of_ble_eq_true rfl⟩) rfl rfl (va_recv hK hP (ci := 5) (q0 := 13) rfl rfl) hK hZ hA hP hD hS rfl hl.1 rfl (Nat.le_of_ble_eq_true rfl) dX5_wayBack_4 ⟨Nat.zero_le _, Nat.zero_le _⟩ (fun r1 H locs h hP hD hS => ?_)
  refine lv_isub hx hb dX5_wayBack_7 ?_
  refine lv_bipush (v := 24) hx hb dX5_wayBack_8 (by decide) ?_
  refine lv_irem hx hb dX5_wayBack_10 (by decide) ?_
  exact hret _ () _ _ _ _ rfl h hP hD hS dX5_wayBack_11
-- X0_rollOn
def rm_X0_rollOn : Room := { frames := 4, cells := 0, slots := 0, locals := 84 }
abbrev ws_X0_rollOn : List Cond := .code yX0_rollOn cX0_rollOn 15 none :: wsL_law
theorem cw_RX0_79 {R : Room} {s : State} {args : Array Value} (hts : ∀ w ∈ wsL_law, w.before args s = true) (hR : rm_X5_wayBack.frames + 1 ≤ R.frames ∧ 8 + (2 + 11) + rm_X5_wayBack.locals ≤ R.locals) : CallW R s args RX0 RX5 79 yX5_wayBack cX5_wayBack 2 (some .int) ws_X5_wayBack rm_X5_wayBack rm_X5_wayBack.cells rm_X5_wayBack.slots 1 := cwV 1 hts (gdV w_26_2 w_17_15 w_17_16 w_1_23 w_17_17) rfl rfl rfl (by decide +kernel) hR
def wp_X0_rollOn (st : St) (a1 : Int32) (a2 : Int32) (post : St → Prop) : Prop := wp_X5_wayBack st a1 (fun r1 => wp_X9_turnX (gL st 0) (gL st 1) r1 (fun r3 => wp_X9_turnY (gL st 0) (gL st 1) r1 (fun r5 => wp_X5_wayBehind st a1 (fun r7 => wp_X5_wayBehind st (a1 + 1) (fun r9 => wp_X9_turnX r3 r5 r9 (fun r11 => wp_X9_turnX r3 r5 r7 (fun r13 => ∀ x15 : Int64, x15 = (r11 - r13) → (wp_X9_turnY r3 r5 r9 (fun r17 => wp_X9_turnY r3 r5 r7 (fun r19 => ∀ x21 : Int64, x21 = (r17 - r19) → (∀ x23 : Int64, x23 = (gL st 2 + (((x15 - gL st 2) * a2.toInt64) / 100)) → (∀ x25 : Int64, x25 = (gL st 3 + (((x21 - gL st 3) * a2.toInt64) / 100)) → (∀ x27 : Int64, x27 = (gL st 0 + x23) → (∀ x29 : Int64, x29 = (gL st 1 + x25) → (post (sL (sL (sL (sL st 2 x23) 3 x25) 0 x27) 1 x29))))))))))))))))
set_option maxHeartbeats 4000000 in
set_option maxRecDepth 100000 in
theorem c_X0_rollOn (l : Launch) (D : va_G) (cy : Nat → ClassId) (tz : Nat → Nat) (ad : Nat → Nat) (st : St) (a1 : Int32) (a2 : Int32) (post : St → Prop) (h : wp_X0_rollOn st a1 a2 post) : CtV l D cy tz yX0_rollOn ws_X0_rollOn rm_X0_rollOn [.ref (ad 16), .int a1, .int a2, .ref (ad 13)] (wX cy ad st) (wX cy ad) post := by
  refine CtV.of (own := RX0) (nm := "rollOn") (lv := [(0, .ref (ad 16)), (1, .int a1), (2, .int a2), (3, .ref (ad 13))]) (plainFor_of_name (by decide)) rfl rfl (Nat.le_of_ble_eq_true rfl) rfl ?_
  intro p e s m args below meth c A Q ls B hP hD hS hl hret
  obtain ⟨hx, hb, hml, hown, hts, hK, hZ, hA, hnm⟩ := B
  have SF : CallFix p m c cX0_rollOn 15 s args wsL_law RX0 := ⟨hx, hb, hml, hown, hts⟩
  unfold wp_X0_rollOn at h
  refine lv_aload_n hx hb dX0_rollOn_0 rfl (lv_at hl 3 rfl) ?_
  refine lv_iload_n hx hb dX0_rollOn_1 rfl (lv_at hl 1 rfl) ?_
  refine callVIr (rest := []) SF (c_X5_wayBack l D cy tz ad st a1 _ h) (cw_RX0_79 hts ⟨Nat.le_of_ble_eq_true rfl, Nat.le_of_ble_eq_true rfl⟩) rfl rfl (va_recv hK hP (ci := 5) (q0 := 13) rfl rfl) hK hZ hA hP hD hS rfl hl.1 rfl (Nat.le_of_ble_eq_true rfl) dX0_rollOn_2 ⟨Nat.zero_le _, Nat.zero_le _⟩ (fun r1 H locs h hP hD hS => ?_)
  refine lv_istore (lv' := [(4, .int r1), (0, .ref (ad 16)), (1, .int a1), (2, .int a2), (3, .ref (ad 13))]) hx hb dX0_rollOn_5 hl (by decide) rfl (fun ls hl => ?_)
  refine lv_aload_n hx hb dX0_rollOn_7 rfl (lv_at hl 1 rfl) ?_
  refine va_get (D := D) (ci := 0) (v := .long (gL st 0)) (C := RX0) (T := TX0) (N := 6) hx hb hts inlX0 hown hK hP 16 rfl rfl 0 (by decide) (hts _ w_16_17) (fun _ h9 => h9) rfl dX0_rollOn_8 ?_
  refine lv_aload_n hx hb dX0_rollOn_11 rfl (lv_at hl 1 rfl) ?_
  refine va_get (D := D) (ci := 0) (v := .long (gL st 1)) (C := RX0) (T := TX0) (N := 6) hx hb hts inlX0 hown hK hP 16 rfl rfl 1 (by decide) (hts _ w_16_18) (fun _ h9 => h9) rfl dX0_rollOn_12 ?_
  refine lv_iload hx hb dX0_rollOn_15 (lv_at hl 0 rfl) ?_
  refine callSLr (rest := []) SF (c_X9_turnX l D cy tz _ (gL st 0) (gL st 1) r1 _ h) (cw_RX0_24 hts ⟨Nat.le_of_ble_eq_true rfl, Nat.le_of_ble_eq_true rfl⟩) rfl rfl hK hZ hA hP hD hS rfl hl.1 rfl (Nat.le_of_ble_eq_true rfl) dX0_rollOn_17 ⟨Nat.zero_le _, Nat.zero_le _⟩ (fun r3 H locs h hP hD hS => ?_)
  refine lv_lstore (lv' := [(5, .long r3), (4, .int r1), (0, .ref (ad 16)), (1, .int a1), (2, .int a2), (3, .ref (ad 13))]) hx hb dX0_rollOn_20 hl (by decide) rfl (fun ls hl => ?_)
  refine lv_aload_n hx hb dX0_rollOn_22 rfl (lv_at hl 2 rfl) ?_
  refine va_get (D := D) (ci := 0) (v := .long (gL st 0)) (C := RX0) (T := TX0) (N := 6) hx hb hts inlX0 hown hK hP 16 rfl rfl 0 (by decide) (hts _ w_16_17) (fun _ h9 => h9) rfl dX0_rollOn_23 ?_
  refine lv_aload_n hx hb dX0_rollOn_26 rfl (lv_at hl 2 rfl) ?_
  refine va_get (D := D) (ci := 0) (v := .long (gL st 1)) (C := RX0) (T := TX0) (N := 6) hx hb hts inlX0 hown hK hP 16 rfl rfl 1 (by decide) (hts _ w_16_18) (fun _ h9 => h9) rfl dX0_rollOn_27 ?_
  refine lv_iload hx hb dX0_rollOn_30 (lv_at hl 1 rfl) ?_
  refine callSLr (rest := []) SF (c_X9_turnY l D cy tz _ (gL st 0) (gL st 1) r1 _ h) (cw_RX0_33 hts ⟨Nat.le_of_ble_eq_true rfl, Nat.le_of_ble_eq_true rfl⟩) rfl rfl hK hZ hA hP hD hS rfl hl.1 rfl (Nat.le_of_ble_eq_true rfl) dX0_rollOn_32 ⟨Nat.zero_le _, Nat.zero_le _⟩ (fun r5 H locs h hP hD hS => ?_)
  refine lv_lstore (lv' := [(7, .long r5), (5, .long r3), (4, .int r1), (0, .ref (ad 16)), (1, .int a1), (2, .int a2), (3, .ref (ad 13))]) hx hb dX0_rollOn_35 hl (by decide) rfl (fun ls hl => ?_)
  refine lv_aload_n hx hb dX0_rollOn_37 rfl (lv_at hl 6 rfl) ?_
  refine lv_iload_n hx hb dX0_rollOn_38 rfl (lv_at hl 4 rfl) ?_
  refine callVIr (rest := []) SF (c_X5_wayBehind l D cy tz ad st a1 _ h) (cw_RX0_9 hts ⟨Nat.le_of_ble_eq_true rfl, Nat.le_of_ble_eq_true rfl⟩) rfl rfl (va_recv hK hP (ci := 5) (q0 := 13) rfl rfl) hK hZ hA hP hD hS rfl hl.1 rfl (Nat.le_of_ble_eq_true rfl) dX0_rollOn_39 ⟨Nat.zero_le _, Nat.zero_le _⟩ (fun r7 H locs h hP hD hS => ?_)
  refine lv_istore (lv' := [(9, .int r7), (7, .long r5), (5, .long r3), (4, .int r1), (0, .ref (ad 16)), (1, .int a1), (2, .int a2), (3, .ref (ad 13))]) hx hb dX0_rollOn_42 hl (by decide) rfl (fun ls hl => ?_)
  refine lv_aload_n hx hb dX0_rollOn_44 rfl (lv_at hl 7 rfl) ?_
  refine lv_iload_n hx hb dX0_rollOn_45 rfl (lv_at hl 5 rfl) ?_
  refine lv_iconst (v := 1) hx hb dX0_rollOn_46 (by decide) ?_
  refine lv_iadd hx hb dX0_rollOn_47 ?_
  refine callVIr (rest := []) SF (c_X5_wayBehind l D cy tz ad st (a1 + 1) _ h) (cw_RX0_9 hts ⟨Nat.le_of_ble_eq_true rfl, Nat.le_of_ble_eq_true rfl⟩) rfl rfl (va_recv hK hP (ci := 5) (q0 := 13) rfl rfl) hK hZ hA hP hD hS rfl hl.1 rfl (Nat.le_of_ble_eq_true rfl) dX0_rollOn_48 ⟨Nat.zero_le _, Nat.zero_le _⟩ (fun r9 H locs h hP hD hS => ?_)
  refine lv_istore (lv' := [(10, .int r9), (9, .int r7), (7, .long r5), (5, .long r3), (4, .int r1), (0, .ref (ad 16)), (1, .int a1), (2, .int a2), (3, .ref (ad 13))]) hx hb dX0_rollOn_51 hl (by decide) rfl (fun ls hl => ?_)
  refine lv_lload hx hb dX0_rollOn_53 (lv_at hl 3 rfl) ?_
  refine lv_lload hx hb dX0_rollOn_55 (lv_at hl 2 rfl) ?_
  refine lv_iload hx hb dX0_rollOn_57 (lv_at hl 0 rfl) ?_
  refine callSLr (rest := []) SF (c_X9_turnX l D cy tz _ r3 r5 r9 _ h) (cw_RX0_24 hts ⟨Nat.le_of_ble_eq_true rfl, Nat.le_of_ble_eq_true rfl⟩) rfl rfl hK hZ hA hP hD hS rfl hl.1 rfl (Nat.le_of_ble_eq_true rfl) dX0_rollOn_59 ⟨Nat.zero_le _, Nat.zero_le _⟩ (fun r11 H locs h hP hD hS => ?_)
  refine lv_lload hx hb dX0_rollOn_62 (lv_at hl 3 rfl) ?_
  refine lv_lload hx hb dX0_rollOn_64 (lv_at hl 2 rfl) ?_
  refine lv_iload hx hb dX0_rollOn_66 (lv_at hl 1 rfl) ?_
  refine callSLr (rest := [.long r11]) SF (c_X9_turnX l D cy tz _ r3 r5 r7 _ h) (cw_RX0_24 hts ⟨Nat.le_of_ble_eq_true rfl, Nat.le_of_ble_eq_true rfl⟩) rfl rfl hK hZ hA hP hD hS rfl hl.1 rfl (Nat.le_of_ble_eq_true rfl) dX0_rollOn_68 ⟨Nat.zero_le _, Nat.zero_le _⟩ (fun r13 H locs h hP hD hS => ?_)
  refine lv_lsub hx hb dX0_rollOn_71 ?_
  refine lv_topl (fun x15 e16 => ?_)
  have h := h x15 e16
  refine lv_lstore (lv' := [(11, .long x15), (10, .int r9), (9, .int r7), (7, .long r5), (5, .long r3), (4, .int r1), (0, .ref (ad 16)), (1, .int a1), (2, .int a2), (3, .ref (ad 13))]) hx hb dX0_rollOn_72 hl (by decide) rfl (fun ls hl => ?_)
  refine lv_lload hx hb dX0_rollOn_74 (lv_at hl 4 rfl) ?_
  refine lv_lload hx hb dX0_rollOn_76 (lv_at hl 3 rfl) ?_
  refine lv_iload hx hb dX0_rollOn_78 (lv_at hl 1 rfl) ?_
  refine callSLr (rest := []) SF (c_X9_turnY l D cy tz _ r3 r5 r9 _ h) (cw_RX0_33 hts ⟨Nat.le_of_ble_eq_true rfl, Nat.le_of_ble_eq_true rfl⟩) rfl rfl hK hZ hA hP hD hS rfl hl.1 rfl (Nat.le_of_ble_eq_true rfl) dX0_rollOn_80 ⟨Nat.zero_le _, Nat.zero_le _⟩ (fun r17 H locs h hP hD hS => ?_)
  refine lv_lload hx hb dX0_rollOn_83 (lv_at hl 4 rfl) ?_
  refine lv_lload hx hb dX0_rollOn_85 (lv_at hl 3 rfl) ?_
  refine lv_iload hx hb dX0_rollOn_87 (lv_at hl 2 rfl) ?_
  refine callSLr (rest := [.long r17]) SF (c_X9_turnY l D cy tz _ r3 r5 r7 _ h) (cw_RX0_33 hts ⟨Nat.le_of_ble_eq_true rfl, Nat.le_of_ble_eq_true rfl⟩) rfl rfl hK hZ hA hP hD hS rfl hl.1 rfl (Nat.le_of_ble_eq_true rfl) dX0_rollOn_89 ⟨Nat.zero_le _, Nat.zero_le _⟩ (fun r19 H locs h hP hD hS => ?_)
  refine lv_lsub hx hb dX0_rollOn_92 ?_
  refine lv_topl (fun x21 e22 => ?_)
  have h := h x21 e22
  refine lv_lstore (lv' := [(13, .long x21), (11, .long x15), (10, .int r9), (9, .int r7), (7, .long r5), (5, .long r3), (4, .int r1), (0, .ref (ad 16)), (1, .int a1), (2, .int a2), (3, .ref (ad 13))]) hx hb dX0_rollOn_93 hl (by decide) rfl (fun ls hl => ?_)
  refine lv_aload_n hx hb dX0_rollOn_95 rfl (lv_at hl 7 rfl) ?_
  refine lv_dup hx hb dX0_rollOn_96 rfl ?_
  refine va_get (D := D) (ci := 0) (v := .long (gL st 2)) (C := RX0) (T := TX0) (N := 6) hx hb hts inlX0 hown hK hP 16 rfl rfl 2 (by decide) (hts _ w_17_4) (fun _ h9 => h9) rfl dX0_rollOn_97 ?_
  refine lv_lload hx hb dX0_rollOn_100 (lv_at hl 1 rfl) ?_
  refine lv_aload_n hx hb dX0_rollOn_102 rfl (lv_at hl 7 rfl) ?_
  refine va_get (D := D) (ci := 0) (v := .long (gL st 2)) (C := RX0) (T := TX0) (N := 6) hx hb hts inlX0 hown hK hP 16 rfl rfl 2 (by decide) (hts _ w_17_4) (fun _ h9 => h9) rfl dX0_rollOn_103 ?_
  refine lv_lsub hx hb dX0_rollOn_106 ?_
  refine lv_iload_n hx hb dX0_rollOn_107 rfl (lv_at hl 9 rfl) ?_
  refine lv_i2l (v := a2.toInt64) hx hb dX0_rollOn_108 rfl ?_
  refine lv_lmul hx hb dX0_rollOn_109 ?_
  refine lv_ldc2 (v := 100) hx hb hown (hts _ w_26_1) dX0_rollOn_110 ?_
  refine lv_ldiv hx hb dX0_rollOn_113 (by decide) ?_
  refine lv_ladd hx hb dX0_rollOn_114 ?_
  refine lv_topl (fun x23 e24 => ?_)
  have h := h x23 e24
  refine va_put (D := D) (ci := 0) (v := .long x23) (ty := .long) (C := RX0) (T := TX0) (N := 6) hx hb hts inlX0 tyX0 tyX0_ok nmX0 hown hK hP hD hS 16 rfl rfl 2 (by decide) (hts _ w_17_4) (fun _ h9 => h9) rfl (by decide +kernel) rfl rfl (Nat.le_of_ble_eq_true rfl) dX0_rollOn_115 (fun H locs hP hD hS => ?_)
  have hP : va_P D vwCl (wX cy ad (sL st 2 x23)) H := hP
  have hD : va_D A (wX cy ad (sL st 2 x23)) := hD
  refine lv_aload_n hx hb dX0_rollOn_118 rfl (lv_at hl 7 rfl) ?_
  refine lv_dup hx hb dX0_rollOn_119 rfl ?_
  refine va_get (D := D) (ci := 0) (v := .long (gL st 3)) (C := RX0) (T := TX0) (N := 6) hx hb hts inlX0 hown hK hP 16 rfl rfl 3 (by decide) (hts _ w_17_5) (fun _ h9 => h9) rfl dX0_rollOn_120 ?_
  refine lv_lload hx hb dX0_rollOn_123 (lv_at hl 0 rfl) ?_
  refine lv_aload_n hx hb dX0_rollOn_125 rfl (lv_at hl 7 rfl) ?_
  refine va_get (D := D) (ci := 0) (v := .long (gL st 3)) (C := RX0) (T := TX0) (N := 6) hx hb hts inlX0 hown hK hP 16 rfl rfl 3 (by decide) (hts _ w_17_5) (fun _ h9 => h9) rfl dX0_rollOn_126 ?_
  refine lv_lsub hx hb dX0_rollOn_129 ?_
  refine lv_iload_n hx hb dX0_rollOn_130 rfl (lv_at hl 9 rfl) ?_
  refine lv_i2l (v := a2.toInt64) hx hb dX0_rollOn_131 rfl ?_
  refine lv_lmul hx hb dX0_rollOn_132 ?_
  refine lv_ldc2 (v := 100) hx hb hown (hts _ w_26_1) dX0_rollOn_133 ?_
  refine lv_ldiv hx hb dX0_rollOn_136 (by decide) ?_
  refine lv_ladd hx hb dX0_rollOn_137 ?_
  refine lv_topl (fun x25 e26 => ?_)
  have h := h x25 e26
  refine va_put (D := D) (ci := 0) (v := .long x25) (ty := .long) (C := RX0) (T := TX0) (N := 6) hx hb hts inlX0 tyX0 tyX0_ok nmX0 hown hK hP hD hS 16 rfl rfl 3 (by decide) (hts _ w_17_5) (fun _ h9 => h9) rfl (by decide +kernel) rfl rfl (Nat.le_of_ble_eq_true rfl) dX0_rollOn_138 (fun H locs hP hD hS => ?_)
  have hP : va_P D vwCl (wX cy ad (sL (sL st 2 x23) 3 x25)) H := hP
  have hD : va_D A (wX cy ad (sL (sL st 2 x23) 3 x25)) := hD
  refine lv_aload_n hx hb dX0_rollOn_141 rfl (lv_at hl 7 rfl) ?_
  refine lv_dup hx hb dX0_rollOn_142 rfl ?_
  refine va_get (D := D) (ci := 0) (v := .long (gL st 0)) (C := RX0) (T := TX0) (N := 6) hx hb hts inlX0 hown hK hP 16 rfl rfl 0 (by decide) (hts _ w_16_17) (fun _ h9 => h9) rfl dX0_rollOn_143 ?_
  refine lv_aload_n hx hb dX0_rollOn_146 rfl (lv_at hl 7 rfl) ?_
  refine va_get (D := D) (ci := 0) (v := .long x23) (C := RX0) (T := TX0) (N := 6) hx hb hts inlX0 hown hK hP 16 rfl rfl 2 (by decide) (hts _ w_17_4) (fun _ h9 => h9) rfl dX0_rollOn_147 ?_
  refine lv_ladd hx hb dX0_rollOn_150 ?_
  refine lv_topl (fun x27 e28 => ?_)
  have h := h x27 e28
  refine va_put (D := D) (ci := 0) (v := .long x27) (ty := .long) (C := RX0) (T := TX0) (N := 6) hx hb hts inlX0 tyX0 tyX0_ok nmX0 hown hK hP hD hS 16 rfl rfl 0 (by decide) (hts _ w_16_17) (fun _ h9 => h9) rfl (by decide +kernel) rfl rfl (Nat.le_of_ble_eq_true rfl) dX0_rollOn_151 (fun H locs hP hD hS => ?_)
  have hP : va_P D vwCl (wX cy ad (sL (sL (sL st 2 x23) 3 x25) 0 x27)) H := hP
  have hD : va_D A (wX cy ad (sL (sL (sL st 2 x23) 3 x25) 0 x27)) := hD
  refine lv_aload_n hx hb dX0_rollOn_154 rfl (lv_at hl 7 rfl) ?_
  refine lv_dup hx hb dX0_rollOn_155 rfl ?_
  refine va_get (D := D) (ci := 0) (v := .long (gL st 1)) (C := RX0) (T := TX0) (N := 6) hx hb hts inlX0 hown hK hP 16 rfl rfl 1 (by decide) (hts _ w_16_18) (fun _ h9 => h9) rfl dX0_rollOn_156 ?_
  refine lv_aload_n hx hb dX0_rollOn_159 rfl (lv_at hl 7 rfl) ?_
  refine va_get (D := D) (ci := 0) (v := .long x25) (C := RX0) (T := TX0) (N := 6) hx hb hts inlX0 hown hK hP 16 rfl rfl 3 (by decide) (hts _ w_17_5) (fun _ h9 => h9) rfl dX0_rollOn_160 ?_
  refine lv_ladd hx hb dX0_rollOn_163 ?_
  refine lv_topl (fun x29 e30 => ?_)
  have h := h x29 e30
  refine va_put (D := D) (ci := 0) (v := .long x29) (ty := .long) (C := RX0) (T := TX0) (N := 6) hx hb hts inlX0 tyX0 tyX0_ok nmX0 hown hK hP hD hS 16 rfl rfl 1 (by decide) (hts _ w_16_18) (fun _ h9 => h9) rfl (by decide +kernel) rfl rfl (Nat.le_of_ble_eq_true rfl) dX0_rollOn_164 (fun H locs hP hD hS => ?_)
  have hP : va_P D vwCl (wX cy ad (sL (sL (sL (sL st 2 x23) 3 x25) 0 x27) 1 x29)) H := hP
  have hD : va_D A (wX cy ad (sL (sL (sL (sL st 2 x23) 3 x25) 0 x27) 1 x29)) := hD
  exact hret _ _ _ _ _ h hP hD hS dX0_rollOn_167
-- X0_isBeyond
def rm_X0_isBeyond : Room := { frames := 0, cells := 0, slots := 0, locals := 0 }
abbrev ws_X0_isBeyond : List Cond := .code yX0_isBeyond cX0_isBeyond 3 (some .boolean) :: wsL_law
def wp_X0_isBeyond (st : St) (a1 : Int64) (post : Int32 → Prop) : Prop := ((((gL st 0 * gL st 0) + (gL st 1 * gL st 1)) ≤ (a1 * a1)) → (post 0)) ∧ ((¬ ((gL st 0 * gL st 0) + (gL st 1 * gL st 1)) ≤ (a1 * a1)) → (post 1))
set_option maxHeartbeats 4000000 in
set_option maxRecDepth 100000 in
theorem c_X0_isBeyond (l : Launch) (D : va_G) (cy : Nat → ClassId) (tz : Nat → Nat) (ad : Nat → Nat) (st : St) (a1 : Int64) (post : Int32 → Prop) (h : wp_X0_isBeyond st a1 post) : CtI l D cy tz yX0_isBeyond ws_X0_isBeyond rm_X0_isBeyond [.ref (ad 16), .long a1] (wX cy ad st) (fun _ : Unit => wX cy ad st) (fun r _ => post r) := by
  refine CtI.of (own := RX0) (nm := "isBeyond") (lv := [(0, .ref (ad 16)), (1, .long a1)]) (plainFor_of_name (by decide)) rfl rfl (Nat.le_of_ble_eq_true rfl) rfl ?_
  intro p e s m args below meth c A Q ls B hP hD hS hl hret
  obtain ⟨hx, hb, hml, hown, hts, hK, hZ, hA, hnm⟩ := B
  have SF : CallFix p m c cX0_isBeyond 3 s args wsL_law RX0 := ⟨hx, hb, hml, hown, hts⟩
  unfold wp_X0_isBeyond at h
  refine lv_aload_n hx hb dX0_isBeyond_0 rfl (lv_at hl 0 rfl) ?_
  refine va_get (D := D) (ci := 0) (v := .long (gL st 0)) (C := RX0) (T := TX0) (N := 6) hx hb hts inlX0 hown hK hP 16 rfl rfl 0 (by decide) (hts _ w_16_17) (fun _ h9 => h9) rfl dX0_isBeyond_1 ?_
  refine lv_aload_n hx hb dX0_isBeyond_4 rfl (lv_at hl 0 rfl) ?_
  refine va_get (D := D) (ci := 0) (v := .long (gL st 0)) (C := RX0) (T := TX0) (N := 6) hx hb hts inlX0 hown hK hP 16 rfl rfl 0 (by decide) (hts _ w_16_17) (fun _ h9 => h9) rfl dX0_isBeyond_5 ?_
  refine lv_lmul hx hb dX0_isBeyond_8 ?_
  refine lv_aload_n hx hb dX0_isBeyond_9 rfl (lv_at hl 0 rfl) ?_
  refine va_get (D := D) (ci := 0) (v := .long (gL st 1)) (C := RX0) (T := TX0) (N := 6) hx hb hts inlX0 hown hK hP 16 rfl rfl 1 (by decide) (hts _ w_16_18) (fun _ h9 => h9) rfl dX0_isBeyond_10 ?_
  refine lv_aload_n hx hb dX0_isBeyond_13 rfl (lv_at hl 0 rfl) ?_
  refine va_get (D := D) (ci := 0) (v := .long (gL st 1)) (C := RX0) (T := TX0) (N := 6) hx hb hts inlX0 hown hK hP 16 rfl rfl 1 (by decide) (hts _ w_16_18) (fun _ h9 => h9) rfl dX0_isBeyond_14 ?_
  refine lv_lmul hx hb dX0_isBeyond_17 ?_
  refine lv_ladd hx hb dX0_isBeyond_18 ?_
  refine lv_lload_n hx hb dX0_isBeyond_19 rfl (lv_at hl 1 rfl) ?_
  refine lv_lload_n hx hb dX0_isBeyond_20 rfl (lv_at hl 1 rfl) ?_
  refine lv_lmul hx hb dX0_isBeyond_21 ?_
  refine W.lcmp hx hb dX0_isBeyond_22 ?_
  refine lv_if_le (tgt := 30) hx hb dX0_isBeyond_23 (by decide) (fun c1 => ?_) (fun c1 => ?_)
  · have h := h.1 ((lg_cmp_le _ _).mp c1)
    refine lv_iconst (v := 0) hx hb dX0_isBeyond_30 (by decide) ?_
    exact hret _ () _ _ _ _ rfl h hP hD hS dX0_isBeyond_31
  · have h := h.2 (fun z => c1 ((lg_cmp_le _ _).mpr z))
    refine lv_iconst (v := 1) hx hb dX0_isBeyond_26 (by decide) ?_
    refine lv_goto (tgt := 31) hx hb dX0_isBeyond_27 (by decide) ?_
    exact hret _ () _ _ _ _ rfl h hP hD hS dX0_isBeyond_31
-- X1_fill
def rm_X1_fill : Room := { frames := 4, cells := 0, slots := 0, locals := 88 }
abbrev ws_X1_fill : List Cond := .code yX1_fill cX1_fill 7 none :: wsL_law
theorem cw_RX1_15 {R : Room} {s : State} {args : Array Value} (hts : ∀ w ∈ wsL_law, w.before args s = true) (hR : rm_X0_throwAnew.frames + 1 ≤ R.frames ∧ 8 + (3 + 11) + rm_X0_throwAnew.locals ≤ R.locals) : CallW R s args RX1 RX0 15 yX0_throwAnew cX0_throwAnew 3 none ws_X0_throwAnew rm_X0_throwAnew rm_X0_throwAnew.cells rm_X0_throwAnew.slots 2 := cwV 2 hts (gdV w_21_10 w_17_1 w_17_2 w_2_3 w_17_3) rfl rfl rfl (by decide +kernel) hR
theorem cw_RX1_21 {R : Room} {s : State} {args : Array Value} (hts : ∀ w ∈ wsL_law, w.before args s = true) (hR : rm_X0_tickCaught.frames + 1 ≤ R.frames ∧ 8 + (4 + 11) + rm_X0_tickCaught.locals ≤ R.locals) : CallW R s args RX1 RX0 21 yX0_tickCaught cX0_tickCaught 4 (some .int) ws_X0_tickCaught rm_X0_tickCaught rm_X0_tickCaught.cells rm_X0_tickCaught.slots 2 := cwV 2 hts (gdV w_21_11 w_19_15 w_19_16 w_2_3 w_19_17) rfl rfl rfl (by decide +kernel) hR
def wp_X1_fill_L19 (post : St → Prop) (K : St → Int32 → Prop) (a3 : Int32) (v1 : Int32) : Nat → St → Int32 → Int32 → Prop
  | 0, _, _, _ => False
  | n19 + 1, t6, v4, v5 => ((24 ≤ v5) → (K t6 v4)) ∧ ((¬ 24 ≤ v5) → (wp_X0_throwAnew t6 v1 v5 (fun t9 => wp_X0_tickCaught t9 a3 (fun r10 => ((r10 = (-6)) → (∀ x13 : Int32, x13 = v5 + 1 → (wp_X1_fill_L19 post K a3 v1 n19 t9 v4 x13))) ∧ ((¬ r10 = (-6)) → (∀ x15 : Int32, x15 = (v4 ||| (1 <<< (v5 &&& 31))) → (∀ x17 : Int32, x17 = v5 + 1 → (wp_X1_fill_L19 post K a3 v1 n19 t9 x15 x17))))))))
def wp_X1_fill_L3 (post : St → Prop) (K : St → Prop) (a3 : Int32) : Nat → St → Int32 → Prop
  | 0, _, _ => False
  | n3 + 1, t2, v1 => ((62 ≤ v1) → (K t2)) ∧ ((¬ 62 ≤ v1) → (∃ m19 : Nat, wp_X1_fill_L19 post (fun t20 v19 => vp_in v1 62 ∧ (∀ x21 : Int32, x21 = v1 + 1 → (wp_X1_fill_L3 post K a3 n3 (sA t20 10 (upd (gA t20 10) v1.toNatClampNeg v19)) x21))) a3 v1 m19 t2 0 0))
def wp_X1_fill (st : St) (a3 : Int32) (post : St → Prop) : Prop := ∃ m3 : Nat, wp_X1_fill_L3 post (fun t23 => post t23) a3 m3 st 0
set_option maxHeartbeats 4000000 in
set_option maxRecDepth 100000 in
theorem c_X1_fill (l : Launch) (D : va_G) (cy : Nat → ClassId) (tz : Nat → Nat) (ad : Nat → Nat) (st : St) (a3 : Int32) (post : St → Prop) (h : wp_X1_fill st a3 post) : CtV l D cy tz yX1_fill ws_X1_fill rm_X1_fill [.ref (ad 20), .ref (ad 16), .ref (ad 17), .int a3] (wX cy ad st) (wX cy ad) post := by
  refine CtV.of (own := RX1) (nm := "fill") (lv := [(0, .ref (ad 20)), (1, .ref (ad 16)), (2, .ref (ad 17)), (3, .int a3)]) (plainFor_of_name (by decide)) rfl rfl (Nat.le_of_ble_eq_true rfl) rfl ?_
  intro p e s m args below meth c A Q ls B hP hD hS hl hret
  obtain ⟨hx, hb, hml, hown, hts, hK, hZ, hA, hnm⟩ := B
  have SF : CallFix p m c cX1_fill 7 s args wsL_law RX1 := ⟨hx, hb, hml, hown, hts⟩
  unfold wp_X1_fill at h
  refine lv_iconst (v := 0) hx hb dX1_fill_0 (by decide) ?_
  refine lv_istore (lv' := [(4, .int 0), (0, .ref (ad 20)), (1, .ref (ad 16)), (2, .ref (ad 17)), (3, .int a3)]) hx hb dX1_fill_1 hl (by decide) rfl (fun ls hl => ?_)
  have loop3 : ∀ (K : St → Prop), (∀ (t23 : St) (H : Heap) (locs : List Loc) (ls : Array Slot), K t23 → va_P D vwCl (wX cy ad t23) H → va_D A (wX cy ad t23) → va_S A s.heap H locs → lv_has ls 7 [] → W p l e rm_X1_fill s m args below meth c H locs 0 0 Q (F0 m 75 ls [])) → ∀ (n : Nat) (t2 : St) (v1 : Int32) (H : Heap) (locs : List Loc) (ls : Array Slot), wp_X1_fill_L3 post K a3 n t2 v1 → va_P D vwCl (wX cy ad t2) H → va_D A (wX cy ad t2) → va_S A s.heap H locs → lv_has ls 7 [(0, .ref (ad 20)), (1, .ref (ad 16)), (2, .ref (ad 17)), (3, .int a3), (4, .int v1)] → W p l e rm_X1_fill s m args below meth c H locs 0 0 Q (F0 m 3 ls []) := by
    intro K hE3 n
    induction n with
    | zero => intro t2 v1 H locs ls h; exact h.elim
    | succ n ih3 =>
      intro t2 v1 H locs ls h hP hD hS hl
      rw [wp_X1_fill_L3] at h
      refine lv_iload hx hb dX1_fill_3 (lv_at hl 4 rfl) ?_
      refine lv_aload_n hx hb dX1_fill_5 rfl (lv_at hl 0 rfl) ?_
      refine va_get (D := D) (ci := 1) (v := .ref (ad 21)) (C := RX1) (T := TX1) (N := 4) hx hb hts inlX1 hown hK hP 20 rfl rfl 0 (by decide) (hts _ w_4_22) (fun _ h9 => h9) rfl dX1_fill_6 ?_
      refine va_alen (v := 62) (ty := .int) hx hb hK hP 21 0 rfl rfl rfl dX1_fill_9 ?_
      refine lv_icmp_ge (tgt := 75) hx hb dX1_fill_10 (by decide) (fun c3 => ?_) (fun c3 => ?_)
      · have h := h.1 c3
        exact hE3 _ _ _ _ h hP hD hS (lv_sub hl [] rfl)
      · have h := h.2 c3
        refine lv_iconst (v := 0) hx hb dX1_fill_13 (by decide) ?_
        refine lv_istore (lv' := [(5, .int 0), (0, .ref (ad 20)), (1, .ref (ad 16)), (2, .ref (ad 17)), (3, .int a3), (4, .int v1)]) hx hb dX1_fill_14 hl (by decide) rfl (fun ls hl => ?_)
        refine lv_iconst (v := 0) hx hb dX1_fill_16 (by decide) ?_
        refine lv_istore (lv' := [(6, .int 0), (5, .int 0), (0, .ref (ad 20)), (1, .ref (ad 16)), (2, .ref (ad 17)), (3, .int a3), (4, .int v1)]) hx hb dX1_fill_17 hl (by decide) rfl (fun ls hl => ?_)
        have loop19 : ∀ (K : St → Int32 → Prop), (∀ (t20 : St) (v19 : Int32) (H : Heap) (locs : List Loc) (ls : Array Slot), K t20 v19 → va_P D vwCl (wX cy ad t20) H → va_D A (wX cy ad t20) → va_S A s.heap H locs → lv_has ls 7 [(0, .ref (ad 20)), (1, .ref (ad 16)), (2, .ref (ad 17)), (3, .int a3), (4, .int v1), (5, .int v19)] → W p l e rm_X1_fill s m args below meth c H locs 0 0 Q (F0 m 60 ls [])) → ∀ (n : Nat) (t6 : St) (v4 : Int32) (v5 : Int32) (H : Heap) (locs : List Loc) (ls : Array Slot), wp_X1_fill_L19 post K a3 v1 n t6 v4 v5 → va_P D vwCl (wX cy ad t6) H → va_D A (wX cy ad t6) → va_S A s.heap H locs → lv_has ls 7 [(0, .ref (ad 20)), (1, .ref (ad 16)), (2, .ref (ad 17)), (3, .int a3), (4, .int v1), (5, .int v4), (6, .int v5)] → W p l e rm_X1_fill s m args below meth c H locs 0 0 Q (F0 m 19 ls []) := by
          intro K hE19 n
          induction n with
          | zero => intro t6 v4 v5 H locs ls h; exact h.elim
          | succ n ih19 =>
            intro t6 v4 v5 H locs ls h hP hD hS hl
            rw [wp_X1_fill_L19] at h
            refine lv_iload hx hb dX1_fill_19 (lv_at hl 6 rfl) ?_
            refine lv_bipush (v := 24) hx hb dX1_fill_21 (by decide) ?_
            refine lv_icmp_ge (tgt := 60) hx hb dX1_fill_23 (by decide) (fun c7 => ?_) (fun c7 => ?_)
            · have h := h.1 c7
              exact hE19 _ _ _ _ _ h hP hD hS (lv_sub hl [0, 1, 2, 3, 4, 5] rfl)
            · have h := h.2 c7
              refine lv_aload_n hx hb dX1_fill_26 rfl (lv_at hl 1 rfl) ?_
              refine lv_iload hx hb dX1_fill_27 (lv_at hl 4 rfl) ?_
              refine lv_iload hx hb dX1_fill_29 (lv_at hl 6 rfl) ?_
              refine callVV (rest := []) SF (c_X0_throwAnew l D cy tz ad t6 v1 v5 _ h) (cw_RX1_15 hts ⟨Nat.le_of_ble_eq_true rfl, Nat.le_of_ble_eq_true rfl⟩) rfl rfl (va_recv hK hP (ci := 0) (q0 := 16) rfl rfl) hK hZ hA hP hD hS rfl hl.1 rfl (Nat.le_of_ble_eq_true rfl) dX1_fill_31 ⟨Nat.zero_le _, Nat.zero_le _⟩ (fun t9 H locs h hP hD hS => ?_)
              refine lv_aload_n hx hb dX1_fill_34 rfl (lv_at hl 1 rfl) ?_
              refine lv_aload_n hx hb dX1_fill_35 rfl (lv_at hl 2 rfl) ?_
              refine lv_iload_n hx hb dX1_fill_36 rfl (lv_at hl 3 rfl) ?_
              refine callVIr (rest := []) SF (c_X0_tickCaught l D cy tz ad t9 a3 _ h) (cw_RX1_21 hts ⟨Nat.le_of_ble_eq_true rfl, Nat.le_of_ble_eq_true rfl⟩) rfl rfl (va_recv hK hP (ci := 0) (q0 := 16) rfl rfl) hK hZ hA hP hD hS rfl hl.1 rfl (Nat.le_of_ble_eq_true rfl) dX1_fill_37 ⟨Nat.zero_le _, Nat.zero_le _⟩ (fun r10 H locs h hP hD hS => ?_)
              refine lv_bipush (v := (-6)) hx hb dX1_fill_40 (by decide) ?_
              refine lv_icmp_eq (tgt := 54) hx hb dX1_fill_42 (by decide) (fun c12 => ?_) (fun c12 => ?_)
              · have h := h.1 c12
                obtain ⟨x13, e14⟩ : ∃ z : Int32, z = v5 + 1 := ⟨_, rfl⟩
                have h := h x13 e14
                refine lv_iinc (v := x13) (lv' := [(6, .int x13), (0, .ref (ad 20)), (1, .ref (ad 16)), (2, .ref (ad 17)), (3, .int a3), (4, .int v1), (5, .int v4)]) hx hb dX1_fill_54 hl (k := 6) rfl (by rw [e14]; rfl) (by decide) rfl (fun ls hl => ?_)
                refine lv_goto (tgt := 19) hx hb dX1_fill_57 (by decide) ?_
                exact ih19 _ _ _ _ _ _ h hP hD hS (lv_sub hl [1, 2, 3, 4, 5, 6, 0] rfl)
              · have h := h.2 c12
                refine lv_iload hx hb dX1_fill_45 (lv_at hl 5 rfl) ?_
                refine lv_iconst (v := 1) hx hb dX1_fill_47 (by decide) ?_
                refine lv_iload hx hb dX1_fill_48 (lv_at hl 6 rfl) ?_
                refine lv_ishl hx hb dX1_fill_50 ?_
                refine lv_ior hx hb dX1_fill_51 ?_
                refine lv_topi (fun x15 e16 => ?_)
                have h := h x15 e16
                refine lv_istore (lv' := [(5, .int x15), (0, .ref (ad 20)), (1, .ref (ad 16)), (2, .ref (ad 17)), (3, .int a3), (4, .int v1), (6, .int v5)]) hx hb dX1_fill_52 hl (by decide) rfl (fun ls hl => ?_)
                obtain ⟨x17, e18⟩ : ∃ z : Int32, z = v5 + 1 := ⟨_, rfl⟩
                have h := h x17 e18
                refine lv_iinc (v := x17) (lv' := [(6, .int x17), (5, .int x15), (0, .ref (ad 20)), (1, .ref (ad 16)), (2, .ref (ad 17)), (3, .int a3), (4, .int v1)]) hx hb dX1_fill_54 hl (k := 6) rfl (by rw [e18]; rfl) (by decide) rfl (fun ls hl => ?_)
                refine lv_goto (tgt := 19) hx hb dX1_fill_57 (by decide) ?_
                exact ih19 _ _ _ _ _ _ h hP hD hS (lv_sub hl [2, 3, 4, 5, 6, 1, 0] rfl)
        obtain ⟨n, h⟩ := h
        refine loop19 _ ?_ n _ _ _ _ _ _ h hP hD hS (lv_sub hl [2, 3, 4, 5, 6, 1, 0] rfl)
        intro t20 v19 H locs ls h hP hD hS hl
        refine lv_aload_n hx hb dX1_fill_60 rfl (lv_at hl 0 rfl) ?_
        refine va_get (D := D) (ci := 1) (v := .ref (ad 21)) (C := RX1) (T := TX1) (N := 4) hx hb hts inlX1 hown hK hP 20 rfl rfl 0 (by decide) (hts _ w_4_22) (fun _ h9 => h9) rfl dX1_fill_61 ?_
        refine lv_iload hx hb dX1_fill_64 (lv_at hl 4 rfl) ?_
        refine lv_iload hx hb dX1_fill_66 (lv_at hl 5 rfl) ?_
        refine va_iast (f := gA t20 10) (n := 62) hx hb hK hP hD hS 21 0 rfl rfl h.1 dX1_fill_68 (fun H locs hP hD hS => ?_)
        have h := h.2
        have hP : va_P D vwCl (wX cy ad (sA t20 10 (upd (gA t20 10) v1.toNatClampNeg v19))) H := hP
        have hD : va_D A (wX cy ad (sA t20 10 (upd (gA t20 10) v1.toNatClampNeg v19))) := hD
        obtain ⟨x21, e22⟩ : ∃ z : Int32, z = v1 + 1 := ⟨_, rfl⟩
        have h := h x21 e22
        refine lv_iinc (v := x21) (lv' := [(4, .int x21), (0, .ref (ad 20)), (1, .ref (ad 16)), (2, .ref (ad 17)), (3, .int a3), (5, .int v19)]) hx hb dX1_fill_69 hl (k := 4) rfl (by rw [e22]; rfl) (by decide) rfl (fun ls hl => ?_)
        refine lv_goto (tgt := 3) hx hb dX1_fill_72 (by decide) ?_
        exact ih3 _ _ _ _ _ h hP hD hS (lv_sub hl [1, 2, 3, 4, 0] rfl)
  obtain ⟨n, h⟩ := h
  refine loop3 _ ?_ n _ _ _ _ _ h hP hD hS (lv_sub hl [1, 2, 3, 4, 0] rfl)
  intro t23 H locs ls h hP hD hS hl
  exact hret _ _ _ _ _ h hP hD hS dX1_fill_75
-- J6_bitCount_0f7a4
def rm_J6_bitCount_0f7a4 : Room := { frames := 0, cells := 0, slots := 0, locals := 0 }
abbrev ws_J6_bitCount_0f7a4 : List Cond := .code yJ6_bitCount_0f7a4 cJ6_bitCount_0f7a4 1 (some .int) :: wsL_law
def wp_J6_bitCount_0f7a4 (a1 : Int32) (post : Int32 → Prop) : Prop := ∀ x1 : Int32, x1 = (a1 - ((a1.toUInt32 >>> ((1 : Int32).toUInt32 &&& Int32.toUInt32 31)).toInt32 &&& 1431655765)) → (∀ x3 : Int32, x3 = ((x1 &&& 858993459) + ((x1.toUInt32 >>> ((2 : Int32).toUInt32 &&& Int32.toUInt32 31)).toInt32 &&& 858993459)) → (∀ x5 : Int32, x5 = ((x3 + (x3.toUInt32 >>> ((4 : Int32).toUInt32 &&& Int32.toUInt32 31)).toInt32) &&& 252645135) → (∀ x7 : Int32, x7 = (x5 + (x5.toUInt32 >>> ((8 : Int32).toUInt32 &&& Int32.toUInt32 31)).toInt32) → (∀ x9 : Int32, x9 = (x7 + (x7.toUInt32 >>> ((16 : Int32).toUInt32 &&& Int32.toUInt32 31)).toInt32) → (post (x9 &&& 63))))))
set_option maxHeartbeats 4000000 in
set_option maxRecDepth 100000 in
theorem c_J6_bitCount_0f7a4 (l : Launch) (D : va_G) (cy : Nat → ClassId) (tz : Nat → Nat) (w : va_W) (a1 : Int32) (post : Int32 → Prop) (h : wp_J6_bitCount_0f7a4 a1 post) : CtI l D cy tz yJ6_bitCount_0f7a4 ws_J6_bitCount_0f7a4 rm_J6_bitCount_0f7a4 [.int a1] w (fun _ : Unit => w) (fun r _ => post r) := by
  refine CtI.of (own := RJ6) (nm := "bitCount") (lv := [(0, .int a1)]) (plainFor_of_name (by decide)) rfl rfl (Nat.le_of_ble_eq_true rfl) rfl ?_
  intro p e s m args below meth c A Q ls B hP hD hS hl hret
  obtain ⟨hx, hb, hml, hown, hts, hK, hZ, hA, hnm⟩ := B
  have SF : CallFix p m c cJ6_bitCount_0f7a4 1 s args wsL_law RJ6 := ⟨hx, hb, hml, hown, hts⟩
  unfold wp_J6_bitCount_0f7a4 at h
  refine lv_iload_n hx hb dJ6_bitCount_0f7a4_0 rfl (lv_at hl 0 rfl) ?_
  refine lv_iload_n hx hb dJ6_bitCount_0f7a4_1 rfl (lv_at hl 0 rfl) ?_
  refine lv_iconst (v := 1) hx hb dJ6_bitCount_0f7a4_2 (by decide) ?_
  refine lv_iushr (v := (a1.toUInt32 >>> ((1 : Int32).toUInt32 &&& Int32.toUInt32 31)).toInt32) hx hb dJ6_bitCount_0f7a4_3 rfl ?_
  refine lv_ldcw (v := 1431655765) hx hb hown (hts _ w_21_20) dJ6_bitCount_0f7a4_4 ?_
  refine lv_iand hx hb dJ6_bitCount_0f7a4_7 ?_
  refine lv_isub hx hb dJ6_bitCount_0f7a4_8 ?_
  refine lv_topi (fun x1 e2 => ?_)
  have h := h x1 e2
  refine lv_istore_n (lv' := [(0, .int x1)]) hx hb dJ6_bitCount_0f7a4_9 rfl hl (by decide) rfl (fun ls hl => ?_)
  refine lv_iload_n hx hb dJ6_bitCount_0f7a4_10 rfl (lv_at hl 0 rfl) ?_
  refine lv_ldcw (v := 858993459) hx hb hown (hts _ w_21_21) dJ6_bitCount_0f7a4_11 ?_
  refine lv_iand hx hb dJ6_bitCount_0f7a4_14 ?_
  refine lv_iload_n hx hb dJ6_bitCount_0f7a4_15 rfl (lv_at hl 0 rfl) ?_
  refine lv_iconst (v := 2) hx hb dJ6_bitCount_0f7a4_16 (by decide) ?_
  refine lv_iushr (v := (x1.toUInt32 >>> ((2 : Int32).toUInt32 &&& Int32.toUInt32 31)).toInt32) hx hb dJ6_bitCount_0f7a4_17 rfl ?_
  refine lv_ldcw (v := 858993459) hx hb hown (hts _ w_21_21) dJ6_bitCount_0f7a4_18 ?_
  refine lv_iand hx hb dJ6_bitCount_0f7a4_21 ?_
  refine lv_iadd hx hb dJ6_bitCount_0f7a4_22 ?_
  refine lv_topi (fun x3 e4 => ?_)
  have h := h x3 e4
  refine lv_istore_n (lv' := [(0, .int x3)]) hx hb dJ6_bitCount_0f7a4_23 rfl hl (by decide) rfl (fun ls hl => ?_)
  refine lv_iload_n hx hb dJ6_bitCount_0f7a4_24 rfl (lv_at hl 0 rfl) ?_
  refine lv_iload_n hx hb dJ6_bitCount_0f7a4_25 rfl (lv_at hl 0 rfl) ?_
  refine lv_iconst (v := 4) hx hb dJ6_bitCount_0f7a4_26 (by decide) ?_
  refine lv_iushr (v := (x3.toUInt32 >>> ((4 : Int32).toUInt32 &&& Int32.toUInt32 31)).toInt32) hx hb dJ6_bitCount_0f7a4_27 rfl ?_
  refine lv_iadd hx hb dJ6_bitCount_0f7a4_28 ?_
  refine lv_ldcw (v := 252645135) hx hb hown (hts _ w_21_22) dJ6_bitCount_0f7a4_29 ?_
  refine lv_iand hx hb dJ6_bitCount_0f7a4_32 ?_
  refine lv_topi (fun x5 e6 => ?_)
  have h := h x5 e6
  refine lv_istore_n (lv' := [(0, .int x5)]) hx hb dJ6_bitCount_0f7a4_33 rfl hl (by decide) rfl (fun ls hl => ?_)
  refine lv_iload_n hx hb dJ6_bitCount_0f7a4_34 rfl (lv_at hl 0 rfl) ?_
  refine lv_iload_n hx hb dJ6_bitCount_0f7a4_35 rfl (lv_at hl 0 rfl) ?_
  refine lv_bipush (v := 8) hx hb dJ6_bitCount_0f7a4_36 (by decide) ?_
  refine lv_iushr (v := (x5.toUInt32 >>> ((8 : Int32).toUInt32 &&& Int32.toUInt32 31)).toInt32) hx hb dJ6_bitCount_0f7a4_38 rfl ?_
  refine lv_iadd hx hb dJ6_bitCount_0f7a4_39 ?_
  refine lv_topi (fun x7 e8 => ?_)
  have h := h x7 e8
  refine lv_istore_n (lv' := [(0, .int x7)]) hx hb dJ6_bitCount_0f7a4_40 rfl hl (by decide) rfl (fun ls hl => ?_)
  refine lv_iload_n hx hb dJ6_bitCount_0f7a4_41 rfl (lv_at hl 0 rfl) ?_
  refine lv_iload_n hx hb dJ6_bitCount_0f7a4_42 rfl (lv_at hl 0 rfl) ?_
  refine lv_bipush (v := 16) hx hb dJ6_bitCount_0f7a4_43 (by decide) ?_
  refine lv_iushr (v := (x7.toUInt32 >>> ((16 : Int32).toUInt32 &&& Int32.toUInt32 31)).toInt32) hx hb dJ6_bitCount_0f7a4_45 rfl ?_
  refine lv_iadd hx hb dJ6_bitCount_0f7a4_46 ?_
  refine lv_topi (fun x9 e10 => ?_)
  have h := h x9 e10
  refine lv_istore_n (lv' := [(0, .int x9)]) hx hb dJ6_bitCount_0f7a4_47 rfl hl (by decide) rfl (fun ls hl => ?_)
  refine lv_iload_n hx hb dJ6_bitCount_0f7a4_48 rfl (lv_at hl 0 rfl) ?_
  refine lv_bipush (v := 63) hx hb dJ6_bitCount_0f7a4_49 (by decide) ?_
  refine lv_iand hx hb dJ6_bitCount_0f7a4_51 ?_
  exact hret _ () _ _ _ _ rfl h hP hD hS dJ6_bitCount_0f7a4_52
-- X1_howMany
def rm_X1_howMany : Room := { frames := 1, cells := 0, slots := 0, locals := 20 }
abbrev ws_X1_howMany : List Cond := .code yX1_howMany cX1_howMany 3 (some .int) :: wsL_law
theorem cw_RX1_25 {R : Room} {s : State} {args : Array Value} (hts : ∀ w ∈ wsL_law, w.before args s = true) (hR : rm_J6_bitCount_0f7a4.frames + 1 ≤ R.frames ∧ 8 + (1 + 11) + rm_J6_bitCount_0f7a4.locals ≤ R.locals) : CallB R s args RX1 25 yJ6_bitCount_0f7a4 cJ6_bitCount_0f7a4 1 (some .int) ws_J6_bitCount_0f7a4 rm_J6_bitCount_0f7a4 rm_J6_bitCount_0f7a4.cells rm_J6_bitCount_0f7a4.slots 1 ∧ (Cond.static yJ6_bitCount_0f7a4).before args s = true := va_cwS 1 hts (gdS w_21_16 w_21_17 w_21_18 w_21_19) rfl rfl rfl (by decide +kernel) hR
def wp_X1_howMany_L4 (post : Int32 → Prop) (K : Int32 → Prop) (st : St) : Nat → Int32 → Int32 → Prop
  | 0, _, _ => False
  | n4 + 1, v1, v2 => ((60 < v2) → (K v1)) ∧ ((¬ 60 < v2) → (vp_in v2 62 ∧ (wp_J6_bitCount_0f7a4 (gA st 10 v2.toNatClampNeg) (fun r5 => ∀ x7 : Int32, x7 = (v1 + r5) → (∀ x9 : Int32, x9 = v2 + 1 → (wp_X1_howMany_L4 post K st n4 x7 x9))))))
def wp_X1_howMany (st : St) (post : Int32 → Prop) : Prop := ∃ m4 : Nat, wp_X1_howMany_L4 post (fun v11 => post v11) st m4 0 1
set_option maxHeartbeats 4000000 in
set_option maxRecDepth 100000 in
theorem c_X1_howMany (l : Launch) (D : va_G) (cy : Nat → ClassId) (tz : Nat → Nat) (ad : Nat → Nat) (st : St) (post : Int32 → Prop) (h : wp_X1_howMany st post) : CtI l D cy tz yX1_howMany ws_X1_howMany rm_X1_howMany [.ref (ad 20)] (wX cy ad st) (fun _ : Unit => wX cy ad st) (fun r _ => post r) := by
  refine CtI.of (own := RX1) (nm := "howMany") (lv := [(0, .ref (ad 20))]) (plainFor_of_name (by decide)) rfl rfl (Nat.le_of_ble_eq_true rfl) rfl ?_
  intro p e s m args below meth c A Q ls B hP hD hS hl hret
  obtain ⟨hx, hb, hml, hown, hts, hK, hZ, hA, hnm⟩ := B
  have SF : CallFix p m c cX1_howMany 3 s args wsL_law RX1 := ⟨hx, hb, hml, hown, hts⟩
  unfold wp_X1_howMany at h
  refine lv_iconst (v := 0) hx hb dX1_howMany_0 (by decide) ?_
  refine lv_istore_n (lv' := [(1, .int 0), (0, .ref (ad 20))]) hx hb dX1_howMany_1 rfl hl (by decide) rfl (fun ls hl => ?_)
  refine lv_iconst (v := 1) hx hb dX1_howMany_2 (by decide) ?_
  refine lv_istore_n (lv' := [(2, .int 1), (1, .int 0), (0, .ref (ad 20))]) hx hb dX1_howMany_3 rfl hl (by decide) rfl (fun ls hl => ?_)
  have loop4 : ∀ (K : Int32 → Prop), (∀ (v11 : Int32) (H : Heap) (locs : List Loc) (ls : Array Slot), K v11 → va_P D vwCl (wX cy ad st) H → va_D A (wX cy ad st) → va_S A s.heap H locs → lv_has ls 3 [(1, .int v11)] → W p l e rm_X1_howMany s m args below meth c H locs 0 0 Q (F0 m 28 ls [])) → ∀ (n : Nat) (v1 : Int32) (v2 : Int32) (H : Heap) (locs : List Loc) (ls : Array Slot), wp_X1_howMany_L4 post K st n v1 v2 → va_P D vwCl (wX cy ad st) H → va_D A (wX cy ad st) → va_S A s.heap H locs → lv_has ls 3 [(0, .ref (ad 20)), (1, .int v1), (2, .int v2)] → W p l e rm_X1_howMany s m args below meth c H locs 0 0 Q (F0 m 4 ls []) := by
    intro K hE4 n
    induction n with
    | zero => intro v1 v2 H locs ls h; exact h.elim
    | succ n ih4 =>
      intro v1 v2 H locs ls h hP hD hS hl
      rw [wp_X1_howMany_L4] at h
      refine lv_iload_n hx hb dX1_howMany_4 rfl (lv_at hl 2 rfl) ?_
      refine lv_bipush (v := 60) hx hb dX1_howMany_5 (by decide) ?_
      refine lv_icmp_gt (tgt := 28) hx hb dX1_howMany_7 (by decide) (fun c4 => ?_) (fun c4 => ?_)
      · have h := h.1 c4
        exact hE4 _ _ _ _ h hP hD hS (lv_sub hl [1] rfl)
      · have h := h.2 c4
        refine lv_iload_n hx hb dX1_howMany_10 rfl (lv_at hl 1 rfl) ?_
        refine lv_aload_n hx hb dX1_howMany_11 rfl (lv_at hl 0 rfl) ?_
        refine va_get (D := D) (ci := 1) (v := .ref (ad 21)) (C := RX1) (T := TX1) (N := 4) hx hb hts inlX1 hown hK hP 20 rfl rfl 0 (by decide) (hts _ w_4_22) (fun _ h9 => h9) rfl dX1_howMany_12 ?_
        refine lv_iload_n hx hb dX1_howMany_15 rfl (lv_at hl 2 rfl) ?_
        refine va_iald (f := gA st 10) (n := 62) hx hb hK hP 21 0 rfl rfl h.1 dX1_howMany_16 ?_
        have h := h.2
        refine callSIr (rest := [.int v1]) SF (c_J6_bitCount_0f7a4 l D cy tz _ (gA st 10 v2.toNatClampNeg) _ h) (cw_RX1_25 hts ⟨Nat.le_of_ble_eq_true rfl, Nat.le_of_ble_eq_true rfl⟩) rfl rfl hK hZ hA hP hD hS rfl hl.1 rfl (Nat.le_of_ble_eq_true rfl) dX1_howMany_17 ⟨Nat.zero_le _, Nat.zero_le _⟩ (fun r5 H locs h hP hD hS => ?_)
        refine lv_iadd hx hb dX1_howMany_20 ?_
        refine lv_topi (fun x7 e8 => ?_)
        have h := h x7 e8
        refine lv_istore_n (lv' := [(1, .int x7), (0, .ref (ad 20)), (2, .int v2)]) hx hb dX1_howMany_21 rfl hl (by decide) rfl (fun ls hl => ?_)
        obtain ⟨x9, e10⟩ : ∃ z : Int32, z = v2 + 1 := ⟨_, rfl⟩
        have h := h x9 e10
        refine lv_iinc (v := x9) (lv' := [(2, .int x9), (1, .int x7), (0, .ref (ad 20))]) hx hb dX1_howMany_22 hl (k := 2) rfl (by rw [e10]; rfl) (by decide) rfl (fun ls hl => ?_)
        refine lv_goto (tgt := 4) hx hb dX1_howMany_25 (by decide) ?_
        exact ih4 _ _ _ _ _ h hP hD hS (lv_sub hl [2, 1, 0] rfl)
  obtain ⟨n, h⟩ := h
  refine loop4 _ ?_ n _ _ _ _ _ h hP hD hS (lv_sub hl [2, 1, 0] rfl)
  intro v11 H locs ls h hP hD hS hl
  refine lv_iload_n hx hb dX1_howMany_28 rfl (lv_at hl 0 rfl) ?_
  exact hret _ () _ _ _ _ rfl h hP hD hS dX1_howMany_29
-- X1_bit
def rm_X1_bit : Room := { frames := 1, cells := 0, slots := 0, locals := 22 }
abbrev ws_X1_bit : List Cond := .code yX1_bit cX1_bit 3 (some .int) :: wsL_law
theorem cw_RX1_48 {R : Room} {s : State} {args : Array Value} (hts : ∀ w ∈ wsL_law, w.before args s = true) (hR : rm_J9_floorMod_7cf53.frames + 1 ≤ R.frames ∧ 8 + (3 + 11) + rm_J9_floorMod_7cf53.locals ≤ R.locals) : CallB R s args RX1 48 yJ9_floorMod_7cf53 cJ9_floorMod_7cf53 3 (some .int) ws_J9_floorMod_7cf53 rm_J9_floorMod_7cf53 rm_J9_floorMod_7cf53.cells rm_J9_floorMod_7cf53.slots 2 ∧ (Cond.static yJ9_floorMod_7cf53).before args s = true := va_cwS 2 hts (gdS w_22_10 w_11_10 w_11_11 w_11_12) rfl rfl rfl (by decide +kernel) hR
def wp_X1_bit (st : St) (a1 : Int32) (a2 : Int32) (post : Int32 → Prop) : Prop := vp_in a1 62 ∧ (wp_J9_floorMod_7cf53 a2 24 (fun r1 => post (((gA st 10 a1.toNatClampNeg) >>> (r1 &&& 31)) &&& 1)))
set_option maxHeartbeats 4000000 in
set_option maxRecDepth 100000 in
theorem c_X1_bit (l : Launch) (D : va_G) (cy : Nat → ClassId) (tz : Nat → Nat) (ad : Nat → Nat) (st : St) (a1 : Int32) (a2 : Int32) (post : Int32 → Prop) (h : wp_X1_bit st a1 a2 post) : CtI l D cy tz yX1_bit ws_X1_bit rm_X1_bit [.ref (ad 20), .int a1, .int a2] (wX cy ad st) (fun _ : Unit => wX cy ad st) (fun r _ => post r) := by
  refine CtI.of (own := RX1) (nm := "bit") (lv := [(0, .ref (ad 20)), (1, .int a1), (2, .int a2)]) (plainFor_of_name (by decide)) rfl rfl (Nat.le_of_ble_eq_true rfl) rfl ?_
  intro p e s m args below meth c A Q ls B hP hD hS hl hret
  obtain ⟨hx, hb, hml, hown, hts, hK, hZ, hA, hnm⟩ := B
  have SF : CallFix p m c cX1_bit 3 s args wsL_law RX1 := ⟨hx, hb, hml, hown, hts⟩
  unfold wp_X1_bit at h
  refine lv_aload_n hx hb dX1_bit_0 rfl (lv_at hl 0 rfl) ?_
  refine va_get (D := D) (ci := 1) (v := .ref (ad 21)) (C := RX1) (T := TX1) (N := 4) hx hb hts inlX1 hown hK hP 20 rfl rfl 0 (by decide) (hts _ w_4_22) (fun _ h9 => h9) rfl dX1_bit_1 ?_
  refine lv_iload_n hx hb dX1_bit_4 rfl (lv_at hl 1 rfl) ?_
  refine va_iald (f := gA st 10) (n := 62) hx hb hK hP 21 0 rfl rfl h.1 dX1_bit_5 ?_
  have h := h.2
  refine lv_iload_n hx hb dX1_bit_6 rfl (lv_at hl 2 rfl) ?_
  refine lv_bipush (v := 24) hx hb dX1_bit_7 (by decide) ?_
  refine callSIr (rest := [.int (gA st 10 a1.toNatClampNeg)]) SF (c_J9_floorMod_7cf53 l D cy tz _ a2 24 _ h) (cw_RX1_48 hts ⟨Nat.le_of_ble_eq_true rfl, Nat.le_of_ble_eq_true rfl⟩) rfl rfl hK hZ hA hP hD hS rfl hl.1 rfl (Nat.le_of_ble_eq_true rfl) dX1_bit_9 ⟨Nat.zero_le _, Nat.zero_le _⟩ (fun r1 H locs h hP hD hS => ?_)
  refine lv_ishr hx hb dX1_bit_12 ?_
  refine lv_iconst (v := 1) hx hb dX1_bit_13 (by decide) ?_
  refine lv_iand hx hb dX1_bit_14 ?_
  exact hret _ () _ _ _ _ rfl h hP hD hS dX1_bit_15
-- X1_neighbours
def rm_X1_neighbours : Room := { frames := 2, cells := 0, slots := 0, locals := 44 }
abbrev ws_X1_neighbours : List Cond := .code yX1_neighbours cX1_neighbours 5 (some .int) :: wsL_law
theorem cw_RX1_41 {R : Room} {s : State} {args : Array Value} (hts : ∀ w ∈ wsL_law, w.before args s = true) (hR : rm_X1_bit.frames + 1 ≤ R.frames ∧ 8 + (3 + 11) + rm_X1_bit.locals ≤ R.locals) : CallW R s args RX1 RX1 41 yX1_bit cX1_bit 3 (some .int) ws_X1_bit rm_X1_bit rm_X1_bit.cells rm_X1_bit.slots 2 := cwV 2 hts (gdV w_22_6 w_22_7 w_22_8 w_2_11 w_22_9) rfl rfl rfl (by decide +kernel) hR
def wp_X1_neighbours_L13 (post : Int32 → Prop) (K : Int32 → Prop) (st : St) (a1 : Int32) (a2 : Int32) : Nat → Int32 → Int32 → Prop
  | 0, _, _ => False
  | n13 + 1, v7, v8 => (((a1 + 1) < v8) → (K v7)) ∧ ((¬ (a1 + 1) < v8) → (wp_X1_bit st v8 (a2 - 1) (fun r11 => wp_X1_bit st v8 a2 (fun r13 => wp_X1_bit st v8 (a2 + 1) (fun r15 => ∀ x17 : Int32, x17 = (v7 + ((r11 + r13) + r15)) → (∀ x19 : Int32, x19 = v8 + 1 → (wp_X1_neighbours_L13 post K st a1 a2 n13 x17 x19)))))))
def wp_X1_neighbours (st : St) (a1 : Int32) (a2 : Int32) (post : Int32 → Prop) : Prop := wp_X1_bit st a1 a2 (fun r1 => ∀ x3 : Int32, x3 = (-r1) → (∀ x5 : Int32, x5 = (a1 - 1) → (∃ m13 : Nat, wp_X1_neighbours_L13 post (fun v21 => post v21) st a1 a2 m13 x3 x5)))
set_option maxHeartbeats 4000000 in
set_option maxRecDepth 100000 in
theorem c_X1_neighbours (l : Launch) (D : va_G) (cy : Nat → ClassId) (tz : Nat → Nat) (ad : Nat → Nat) (st : St) (a1 : Int32) (a2 : Int32) (post : Int32 → Prop) (h : wp_X1_neighbours st a1 a2 post) : CtI l D cy tz yX1_neighbours ws_X1_neighbours rm_X1_neighbours [.ref (ad 20), .int a1, .int a2] (wX cy ad st) (fun _ : Unit => wX cy ad st) (fun r _ => post r) := by
  refine CtI.of (own := RX1) (nm := "neighbours") (lv := [(0, .ref (ad 20)), (1, .int a1), (2, .int a2)]) (plainFor_of_name (by decide)) rfl rfl (Nat.le_of_ble_eq_true rfl) rfl ?_
  intro p e s m args below meth c A Q ls B hP hD hS hl hret
  obtain ⟨hx, hb, hml, hown, hts, hK, hZ, hA, hnm⟩ := B
  have SF : CallFix p m c cX1_neighbours 5 s args wsL_law RX1 := ⟨hx, hb, hml, hown, hts⟩
  unfold wp_X1_neighbours at h
  refine lv_aload_n hx hb dX1_neighbours_0 rfl (lv_at hl 0 rfl) ?_
  refine lv_iload_n hx hb dX1_neighbours_1 rfl (lv_at hl 1 rfl) ?_
  refine lv_iload_n hx hb dX1_neighbours_2 rfl (lv_at hl 2 rfl) ?_
  refine callVIr (rest := []) SF (c_X1_bit l D cy tz ad st a1 a2 _ h) (cw_RX1_41 hts ⟨Nat.le_of_ble_eq_true rfl, Nat.le_of_ble_eq_true rfl⟩) rfl rfl (va_recv hK hP (ci := 1) (q0 := 20) rfl rfl) hK hZ hA hP hD hS rfl hl.1 rfl (Nat.le_of_ble_eq_true rfl) dX1_neighbours_3 ⟨Nat.zero_le _, Nat.zero_le _⟩ (fun r1 H locs h hP hD hS => ?_)
  refine lv_ineg hx hb dX1_neighbours_6 ?_
  refine lv_topi (fun x3 e4 => ?_)
  have h := h x3 e4
  refine lv_istore_n (lv' := [(3, .int x3), (0, .ref (ad 20)), (1, .int a1), (2, .int a2)]) hx hb dX1_neighbours_7 rfl hl (by decide) rfl (fun ls hl => ?_)
  refine lv_iload_n hx hb dX1_neighbours_8 rfl (lv_at hl 2 rfl) ?_
  refine lv_iconst (v := 1) hx hb dX1_neighbours_9 (by decide) ?_
  refine lv_isub hx hb dX1_neighbours_10 ?_
  refine lv_topi (fun x5 e6 => ?_)
  have h := h x5 e6
  refine lv_istore (lv' := [(4, .int x5), (3, .int x3), (0, .ref (ad 20)), (1, .int a1), (2, .int a2)]) hx hb dX1_neighbours_11 hl (by decide) rfl (fun ls hl => ?_)
  have loop13 : ∀ (K : Int32 → Prop), (∀ (v21 : Int32) (H : Heap) (locs : List Loc) (ls : Array Slot), K v21 → va_P D vwCl (wX cy ad st) H → va_D A (wX cy ad st) → va_S A s.heap H locs → lv_has ls 5 [(3, .int v21)] → W p l e rm_X1_neighbours s m args below meth c H locs 0 0 Q (F0 m 57 ls [])) → ∀ (n : Nat) (v7 : Int32) (v8 : Int32) (H : Heap) (locs : List Loc) (ls : Array Slot), wp_X1_neighbours_L13 post K st a1 a2 n v7 v8 → va_P D vwCl (wX cy ad st) H → va_D A (wX cy ad st) → va_S A s.heap H locs → lv_has ls 5 [(0, .ref (ad 20)), (1, .int a1), (2, .int a2), (3, .int v7), (4, .int v8)] → W p l e rm_X1_neighbours s m args below meth c H locs 0 0 Q (F0 m 13 ls []) := by
    intro K hE13 n
    induction n with
    | zero => intro v7 v8 H locs ls h; exact h.elim
    | succ n ih13 =>
      intro v7 v8 H locs ls h hP hD hS hl
      rw [wp_X1_neighbours_L13] at h
      refine lv_iload hx hb dX1_neighbours_13 (lv_at hl 4 rfl) ?_
      refine lv_iload_n hx hb dX1_neighbours_15 rfl (lv_at hl 1 rfl) ?_
      refine lv_iconst (v := 1) hx hb dX1_neighbours_16 (by decide) ?_
      refine lv_iadd hx hb dX1_neighbours_17 ?_
      refine lv_icmp_gt (tgt := 57) hx hb dX1_neighbours_18 (by decide) (fun c10 => ?_) (fun c10 => ?_)
      · have h := h.1 c10
        exact hE13 _ _ _ _ h hP hD hS (lv_sub hl [3] rfl)
      · have h := h.2 c10
        refine lv_iload_n hx hb dX1_neighbours_21 rfl (lv_at hl 3 rfl) ?_
        refine lv_aload_n hx hb dX1_neighbours_22 rfl (lv_at hl 0 rfl) ?_
        refine lv_iload hx hb dX1_neighbours_23 (lv_at hl 4 rfl) ?_
        refine lv_iload_n hx hb dX1_neighbours_25 rfl (lv_at hl 2 rfl) ?_
        refine lv_iconst (v := 1) hx hb dX1_neighbours_26 (by decide) ?_
        refine lv_isub hx hb dX1_neighbours_27 ?_
        refine callVIr (rest := [.int v7]) SF (c_X1_bit l D cy tz ad st v8 (a2 - 1) _ h) (cw_RX1_41 hts ⟨Nat.le_of_ble_eq_true rfl, Nat.le_of_ble_eq_true rfl⟩) rfl rfl (va_recv hK hP (ci := 1) (q0 := 20) rfl rfl) hK hZ hA hP hD hS rfl hl.1 rfl (Nat.le_of_ble_eq_true rfl) dX1_neighbours_28 ⟨Nat.zero_le _, Nat.zero_le _⟩ (fun r11 H locs h hP hD hS => ?_)
        refine lv_aload_n hx hb dX1_neighbours_31 rfl (lv_at hl 0 rfl) ?_
        refine lv_iload hx hb dX1_neighbours_32 (lv_at hl 4 rfl) ?_
        refine lv_iload_n hx hb dX1_neighbours_34 rfl (lv_at hl 2 rfl) ?_
        refine callVIr (rest := [.int r11, .int v7]) SF (c_X1_bit l D cy tz ad st v8 a2 _ h) (cw_RX1_41 hts ⟨Nat.le_of_ble_eq_true rfl, Nat.le_of_ble_eq_true rfl⟩) rfl rfl (va_recv hK hP (ci := 1) (q0 := 20) rfl rfl) hK hZ hA hP hD hS rfl hl.1 rfl (Nat.le_of_ble_eq_true rfl) dX1_neighbours_35 ⟨Nat.zero_le _, Nat.zero_le _⟩ (fun r13 H locs h hP hD hS => ?_)
        refine lv_iadd hx hb dX1_neighbours_38 ?_
        refine lv_aload_n hx hb dX1_neighbours_39 rfl (lv_at hl 0 rfl) ?_
        refine lv_iload hx hb dX1_neighbours_40 (lv_at hl 4 rfl) ?_
        refine lv_iload_n hx hb dX1_neighbours_42 rfl (lv_at hl 2 rfl) ?_
        refine lv_iconst (v := 1) hx hb dX1_neighbours_43 (by decide) ?_
        refine lv_iadd hx hb dX1_neighbours_44 ?_
        refine callVIr (rest := [.int (r11 + r13), .int v7]) SF (c_X1_bit l D cy tz ad st v8 (a2 + 1) _ h) (cw_RX1_41 hts ⟨Nat.le_of_ble_eq_true rfl, Nat.le_of_ble_eq_true rfl⟩) rfl rfl (va_recv hK hP (ci := 1) (q0 := 20) rfl rfl) hK hZ hA hP hD hS rfl hl.1 rfl (Nat.le_of_ble_eq_true rfl) dX1_neighbours_45 ⟨Nat.zero_le _, Nat.zero_le _⟩ (fun r15 H locs h hP hD hS => ?_)
        refine lv_iadd hx hb dX1_neighbours_48 ?_
        refine lv_iadd hx hb dX1_neighbours_49 ?_
        refine lv_topi (fun x17 e18 => ?_)
        have h := h x17 e18
        refine lv_istore_n (lv' := [(3, .int x17), (0, .ref (ad 20)), (1, .int a1), (2, .int a2), (4, .int v8)]) hx hb dX1_neighbours_50 rfl hl (by decide) rfl (fun ls hl => ?_)
        obtain ⟨x19, e20⟩ : ∃ z : Int32, z = v8 + 1 := ⟨_, rfl⟩
        have h := h x19 e20
        refine lv_iinc (v := x19) (lv' := [(4, .int x19), (3, .int x17), (0, .ref (ad 20)), (1, .int a1), (2, .int a2)]) hx hb dX1_neighbours_51 hl (k := 4) rfl (by rw [e20]; rfl) (by decide) rfl (fun ls hl => ?_)
        refine lv_goto (tgt := 13) hx hb dX1_neighbours_54 (by decide) ?_
        exact ih13 _ _ _ _ _ h hP hD hS (lv_sub hl [2, 3, 4, 1, 0] rfl)
  obtain ⟨n, h⟩ := h
  refine loop13 _ ?_ n _ _ _ _ _ h hP hD hS (lv_sub hl [2, 3, 4, 1, 0] rfl)
  intro v21 H locs ls h hP hD hS hl
  refine lv_iload_n hx hb dX1_neighbours_57 rfl (lv_at hl 0 rfl) ?_
  exact hret _ () _ _ _ _ rfl h hP hD hS dX1_neighbours_58
