-- X6_paceAt
def rm_X6_paceAt : Room := { frames := 1, cells := 0, slots := 0, locals := 14 }
abbrev ws_X6_paceAt : List Cond := .code yX6_paceAt cX6_paceAt 5 (some .int) :: wsL_law
def wp_X6_paceAt_L5 (post : Int32 → Prop) (K : Int32 → Prop) (st : St) (a1 : Int32) : Nat → Int32 → Int32 → Prop
  | 0, _, _ => False
  | n5 + 1, v1, v2 => ((gI st 2 ≤ v2) → (K v1)) ∧ ((¬ gI st 2 ≤ v2) → (vp_in v2 20 ∧ (((¬ (gA st 2 v2.toNatClampNeg) = a1) → (∀ x6 : Int32, x6 = v2 + 1 → (wp_X6_paceAt_L5 post K st a1 n5 v1 x6))) ∧ (((gA st 2 v2.toNatClampNeg) = a1) → (vp_in v2 20 ∧ (∀ x8 : Int32, x8 = (if (-99) < (if (v1 + (gA st 3 v2.toNatClampNeg)) < 99 then (v1 + (gA st 3 v2.toNatClampNeg)) else 99) then (if (v1 + (gA st 3 v2.toNatClampNeg)) < 99 then (v1 + (gA st 3 v2.toNatClampNeg)) else 99) else (-99)) → (∀ x10 : Int32, x10 = v2 + 1 → (wp_X6_paceAt_L5 post K st a1 n5 x8 x10))))))))
def wp_X6_paceAt (st : St) (a1 : Int32) (a2 : Int32) (post : Int32 → Prop) : Prop := ∃ m5 : Nat, wp_X6_paceAt_L5 post (fun v12 => post v12) st a1 m5 a2 0
set_option maxHeartbeats 4000000 in
set_option maxRecDepth 100000 in
theorem c_X6_paceAt (l : Launch) (D : va_G) (cy : Nat → ClassId) (tz : Nat → Nat) (ad : Nat → Nat) (st : St) (a1 : Int32) (a2 : Int32) (post : Int32 → Prop) (h : wp_X6_paceAt st a1 a2 post) : CtI l D cy tz yX6_paceAt ws_X6_paceAt rm_X6_paceAt [.ref (ad 5), .int a1, .int a2] (wX cy ad st) (fun _ : Unit => wX cy ad st) (fun r _ => post r) := by
  refine CtI.of (own := RX6) (nm := "paceAt") (lv := [(0, .ref (ad 5)), (1, .int a1), (2, .int a2)]) (plainFor_of_name (by decide)) rfl rfl (Nat.le_of_ble_eq_true rfl) rfl ?_
  intro p e s m args below meth c A Q ls B hP hD hS hl hret
  obtain ⟨hx, hb, hml, hown, hts, hK, hZ, hA, hnm⟩ := B
  have SF : CallFix p m c cX6_paceAt 5 s args wsL_law RX6 := ⟨hx, hb, hml, hown, hts⟩
  unfold wp_X6_paceAt at h
  refine lv_iload_n hx hb dX6_paceAt_0 rfl (lv_at hl 2 rfl) ?_
  refine lv_istore_n (lv' := [(3, .int a2), (0, .ref (ad 5)), (1, .int a1), (2, .int a2)]) hx hb dX6_paceAt_1 rfl hl (by decide) rfl (fun ls hl => ?_)
  refine lv_iconst (v := 0) hx hb dX6_paceAt_2 (by decide) ?_
  refine lv_istore (lv' := [(4, .int 0), (3, .int a2), (0, .ref (ad 5)), (1, .int a1), (2, .int a2)]) hx hb dX6_paceAt_3 hl (by decide) rfl (fun ls hl => ?_)
  have loop5 : ∀ (K : Int32 → Prop), (∀ (v12 : Int32) (H : Heap) (locs : List Loc) (ls : Array Slot), K v12 → va_P D vwCl (wX cy ad st) H → va_D A (wX cy ad st) → va_S A s.heap H locs → lv_has ls 5 [(3, .int v12)] → W p l e rm_X6_paceAt s m args below meth c H locs 0 0 Q (F0 m 51 ls [])) → ∀ (n : Nat) (v1 : Int32) (v2 : Int32) (H : Heap) (locs : List Loc) (ls : Array Slot), wp_X6_paceAt_L5 post K st a1 n v1 v2 → va_P D vwCl (wX cy ad st) H → va_D A (wX cy ad st) → va_S A s.heap H locs → lv_has ls 5 [(0, .ref (ad 5)), (1, .int a1), (3, .int v1), (4, .int v2)] → W p l e rm_X6_paceAt s m args below meth c H locs 0 0 Q (F0 m 5 ls []) := by
    intro K hE5 n
    induction n with
    | zero => intro v1 v2 H locs ls h; exact h.elim
    | succ n ih5 =>
      intro v1 v2 H locs ls h hP hD hS hl
      rw [wp_X6_paceAt_L5] at h
      refine lv_iload hx hb dX6_paceAt_5 (lv_at hl 3 rfl) ?_
      refine lv_aload_n hx hb dX6_paceAt_7 rfl (lv_at hl 0 rfl) ?_
      refine va_get (D := D) (ci := 6) (v := .int (gI st 2)) (C := RX6) (T := TX6) (N := 4) hx hb hts inlX6 hown hK hP 5 rfl rfl 2 (by decide) (hts _ w_9_13) (fun _ h9 => h9) rfl dX6_paceAt_8 ?_
      refine lv_icmp_ge (tgt := 51) hx hb dX6_paceAt_11 (by decide) (fun c4 => ?_) (fun c4 => ?_)
      · have h := h.1 c4
        exact hE5 _ _ _ _ h hP hD hS (lv_sub hl [2] rfl)
      · have h := h.2 c4
        refine lv_aload_n hx hb dX6_paceAt_14 rfl (lv_at hl 0 rfl) ?_
        refine va_get (D := D) (ci := 6) (v := .ref (ad 6)) (C := RX6) (T := TX6) (N := 4) hx hb hts inlX6 hown hK hP 5 rfl rfl 0 (by decide) (hts _ w_3_22) (fun _ h9 => h9) rfl dX6_paceAt_15 ?_
        refine lv_iload hx hb dX6_paceAt_18 (lv_at hl 3 rfl) ?_
        refine va_iald (f := gA st 2) (n := 20) hx hb hK hP 6 0 rfl rfl h.1 dX6_paceAt_20 ?_
        have h := h.2
        refine lv_iload_n hx hb dX6_paceAt_21 rfl (lv_at hl 1 rfl) ?_
        refine lv_icmp_ne (tgt := 45) hx hb dX6_paceAt_22 (by decide) (fun c5 => ?_) (fun c5 => ?_)
        · have h := h.1 c5
          obtain ⟨x6, e7⟩ : ∃ z : Int32, z = v2 + 1 := ⟨_, rfl⟩
          have h := h x6 e7
          refine lv_iinc (v := x6) (lv' := [(4, .int x6), (0, .ref (ad 5)), (1, .int a1), (3, .int v1)]) hx hb dX6_paceAt_45 hl (k := 3) rfl (by rw [e7]; rfl) (by decide) rfl (fun ls hl => ?_)
          refine lv_goto (tgt := 5) hx hb dX6_paceAt_48 (by decide) ?_
          exact ih5 _ _ _ _ _ h hP hD hS (lv_sub hl [1, 2, 3, 0] rfl)
        · have h := h.2 c5
          refine lv_bipush (v := (-99)) hx hb dX6_paceAt_25 (by decide) ?_
          refine lv_bipush (v := 99) hx hb dX6_paceAt_27 (by decide) ?_
          refine lv_iload_n hx hb dX6_paceAt_29 rfl (lv_at hl 2 rfl) ?_
          refine lv_aload_n hx hb dX6_paceAt_30 rfl (lv_at hl 0 rfl) ?_
          refine va_get (D := D) (ci := 6) (v := .ref (ad 7)) (C := RX6) (T := TX6) (N := 4) hx hb hts inlX6 hown hK hP 5 rfl rfl 1 (by decide) (hts _ w_3_23) (fun _ h9 => h9) rfl dX6_paceAt_31 ?_
          refine lv_iload hx hb dX6_paceAt_34 (lv_at hl 3 rfl) ?_
          refine va_iald (f := gA st 3) (n := 20) hx hb hK hP 7 0 rfl rfl h.1 dX6_paceAt_36 ?_
          have h := h.2
          refine lv_iadd hx hb dX6_paceAt_37 ?_
          refine va_mmin hx hb (hml.trans hl.1.symm) hown (hts _ w_11_2) (hts _ w_11_3) (hts _ w_11_4) (hts _ w_11_5) (Nat.le_of_ble_eq_true rfl) (Nat.le_of_ble_eq_true rfl) (Nat.zero_le _) (Nat.zero_le _) dX6_paceAt_38 ?_
          refine va_mmax hx hb (hml.trans hl.1.symm) hown (hts _ w_11_6) (hts _ w_11_7) (hts _ w_11_4) (hts _ w_11_8) (Nat.le_of_ble_eq_true rfl) (Nat.le_of_ble_eq_true rfl) (Nat.zero_le _) (Nat.zero_le _) dX6_paceAt_41 ?_
          refine lv_topi (fun x8 e9 => ?_)
          have h := h x8 e9
          refine lv_istore_n (lv' := [(3, .int x8), (0, .ref (ad 5)), (1, .int a1), (4, .int v2)]) hx hb dX6_paceAt_44 rfl hl (by decide) rfl (fun ls hl => ?_)
          obtain ⟨x10, e11⟩ : ∃ z : Int32, z = v2 + 1 := ⟨_, rfl⟩
          have h := h x10 e11
          refine lv_iinc (v := x10) (lv' := [(4, .int x10), (3, .int x8), (0, .ref (ad 5)), (1, .int a1)]) hx hb dX6_paceAt_45 hl (k := 3) rfl (by rw [e11]; rfl) (by decide) rfl (fun ls hl => ?_)
          refine lv_goto (tgt := 5) hx hb dX6_paceAt_48 (by decide) ?_
          exact ih5 _ _ _ _ _ h hP hD hS (lv_sub hl [2, 3, 1, 0] rfl)
  obtain ⟨n, h⟩ := h
  refine loop5 _ ?_ n _ _ _ _ _ h hP hD hS (lv_sub hl [2, 3, 1, 0] rfl)
  intro v12 H locs ls h hP hD hS hl
  refine lv_iload_n hx hb dX6_paceAt_51 rfl (lv_at hl 0 rfl) ?_
  exact hret _ () _ _ _ _ rfl h hP hD hS dX6_paceAt_52
-- X7_slows
def rm_X7_slows : Room := { frames := 0, cells := 0, slots := 0, locals := 0 }
abbrev ws_X7_slows : List Cond := .code yX7_slows cX7_slows 1 (some .int) :: wsL_law
def wp_X7_slows (st : St) (post : Int32 → Prop) : Prop := post (gA st 1 (1 : Int32).toNatClampNeg)
set_option maxHeartbeats 4000000 in
set_option maxRecDepth 100000 in
theorem c_X7_slows (l : Launch) (D : va_G) (cy : Nat → ClassId) (tz : Nat → Nat) (ad : Nat → Nat) (st : St) (post : Int32 → Prop) (h : wp_X7_slows st post) : CtI l D cy tz yX7_slows ws_X7_slows rm_X7_slows [.ref (ad 3)] (wX cy ad st) (fun _ : Unit => wX cy ad st) (fun r _ => post r) := by
  refine CtI.of (own := RX7) (nm := "slows") (lv := [(0, .ref (ad 3))]) (plainFor_of_name (by decide)) rfl rfl (Nat.le_of_ble_eq_true rfl) rfl ?_
  intro p e s m args below meth c A Q ls B hP hD hS hl hret
  obtain ⟨hx, hb, hml, hown, hts, hK, hZ, hA, hnm⟩ := B
  have SF : CallFix p m c cX7_slows 1 s args wsL_law RX7 := ⟨hx, hb, hml, hown, hts⟩
  unfold wp_X7_slows at h
  refine lv_aload_n hx hb dX7_slows_0 rfl (lv_at hl 0 rfl) ?_
  refine va_get (D := D) (ci := 7) (v := .ref (ad 4)) (C := RX7) (T := TX7) (N := 6) hx hb hts inlX7 hown hK hP 3 rfl rfl 0 (by decide) (hts _ w_3_8) (fun _ h9 => h9) rfl dX7_slows_1 ?_
  refine lv_iconst (v := 1) hx hb dX7_slows_4 (by decide) ?_
  refine va_iald (f := gA st 1) (n := 5) hx hb hK hP 4 0 rfl rfl (vin (by decide +kernel)) dX7_slows_5 ?_
  exact hret _ () _ _ _ _ rfl h hP hD hS dX7_slows_6
-- X5_nearerToZero
def rm_X5_nearerToZero : Room := { frames := 1, cells := 0, slots := 0, locals := 13 }
abbrev ws_X5_nearerToZero : List Cond := .code yX5_nearerToZero cX5_nearerToZero 2 (some .int) :: wsL_law
def wp_X5_nearerToZero (a1 : Int32) (a2 : Int32) (post : Int32 → Prop) : Prop := ((a1 ≤ 0) → (post (if (a1 + a2) < 0 then (a1 + a2) else 0))) ∧ ((¬ a1 ≤ 0) → (post (if 0 < (a1 - a2) then (a1 - a2) else 0)))
set_option maxHeartbeats 4000000 in
set_option maxRecDepth 100000 in
theorem c_X5_nearerToZero (l : Launch) (D : va_G) (cy : Nat → ClassId) (tz : Nat → Nat) (w : va_W) (a1 : Int32) (a2 : Int32) (post : Int32 → Prop) (h : wp_X5_nearerToZero a1 a2 post) : CtI l D cy tz yX5_nearerToZero ws_X5_nearerToZero rm_X5_nearerToZero [.int a1, .int a2] w (fun _ : Unit => w) (fun r _ => post r) := by
  refine CtI.of (own := RX5) (nm := "nearerToZero") (lv := [(0, .int a1), (1, .int a2)]) (plainFor_of_name (by decide)) rfl rfl (Nat.le_of_ble_eq_true rfl) rfl ?_
  intro p e s m args below meth c A Q ls B hP hD hS hl hret
  obtain ⟨hx, hb, hml, hown, hts, hK, hZ, hA, hnm⟩ := B
  have SF : CallFix p m c cX5_nearerToZero 2 s args wsL_law RX5 := ⟨hx, hb, hml, hown, hts⟩
  unfold wp_X5_nearerToZero at h
  refine lv_iload_n hx hb dX5_nearerToZero_0 rfl (lv_at hl 0 rfl) ?_
  refine lv_if_le (tgt := 14) hx hb dX5_nearerToZero_1 (by decide) (fun c1 => ?_) (fun c1 => ?_)
  · have h := h.1 c1
    refine lv_iconst (v := 0) hx hb dX5_nearerToZero_14 (by decide) ?_
    refine lv_iload_n hx hb dX5_nearerToZero_15 rfl (lv_at hl 0 rfl) ?_
    refine lv_iload_n hx hb dX5_nearerToZero_16 rfl (lv_at hl 1 rfl) ?_
    refine lv_iadd hx hb dX5_nearerToZero_17 ?_
    refine va_mmin hx hb (hml.trans hl.1.symm) hown (hts _ w_11_21) (hts _ w_11_3) (hts _ w_11_4) (hts _ w_11_5) (Nat.le_of_ble_eq_true rfl) (Nat.le_of_ble_eq_true rfl) (Nat.zero_le _) (Nat.zero_le _) dX5_nearerToZero_18 ?_
    exact hret _ () _ _ _ _ rfl h hP hD hS dX5_nearerToZero_21
  · have h := h.2 c1
    refine lv_iconst (v := 0) hx hb dX5_nearerToZero_4 (by decide) ?_
    refine lv_iload_n hx hb dX5_nearerToZero_5 rfl (lv_at hl 0 rfl) ?_
    refine lv_iload_n hx hb dX5_nearerToZero_6 rfl (lv_at hl 1 rfl) ?_
    refine lv_isub hx hb dX5_nearerToZero_7 ?_
    refine va_mmax hx hb (hml.trans hl.1.symm) hown (hts _ w_11_20) (hts _ w_11_7) (hts _ w_11_4) (hts _ w_11_8) (Nat.le_of_ble_eq_true rfl) (Nat.le_of_ble_eq_true rfl) (Nat.zero_le _) (Nat.zero_le _) dX5_nearerToZero_8 ?_
    refine lv_goto (tgt := 21) hx hb dX5_nearerToZero_11 (by decide) ?_
    exact hret _ () _ _ _ _ rfl h hP hD hS dX5_nearerToZero_21
-- X5_run
def rm_X5_run : Room := { frames := 2, cells := 0, slots := 0, locals := 38 }
abbrev ws_X5_run : List Cond := .code yX5_run cX5_run 5 none :: wsL_law
theorem cw_RX5_24 {R : Room} {s : State} {args : Array Value} (hts : ∀ w ∈ wsL_law, w.before args s = true) (hR : rm_X6_paceAt.frames + 1 ≤ R.frames ∧ 8 + (5 + 11) + rm_X6_paceAt.locals ≤ R.locals) : CallW R s args RX5 RX6 24 yX6_paceAt cX6_paceAt 5 (some .int) ws_X6_paceAt rm_X6_paceAt rm_X6_paceAt.cells rm_X6_paceAt.slots 2 := cwV 2 hts (gdV w_10_22 w_10_23 w_11_0 w_3_11 w_11_1) rfl rfl rfl (by decide +kernel) hR
theorem cw_RX5_35 {R : Room} {s : State} {args : Array Value} (hts : ∀ w ∈ wsL_law, w.before args s = true) (hR : rm_X7_slows.frames + 1 ≤ R.frames ∧ 8 + (1 + 11) + rm_X7_slows.locals ≤ R.locals) : CallW R s args RX5 RX7 35 yX7_slows cX7_slows 1 (some .int) ws_X7_slows rm_X7_slows rm_X7_slows.cells rm_X7_slows.slots 0 := cwV 0 hts (gdV w_11_13 w_11_14 w_11_15 w_1_18 w_11_16) rfl rfl rfl (by decide +kernel) hR
theorem cw_RX5_39 {R : Room} {s : State} {args : Array Value} (hts : ∀ w ∈ wsL_law, w.before args s = true) (hR : rm_X5_nearerToZero.frames + 1 ≤ R.frames ∧ 8 + (2 + 11) + rm_X5_nearerToZero.locals ≤ R.locals) : CallB R s args RX5 39 yX5_nearerToZero cX5_nearerToZero 2 (some .int) ws_X5_nearerToZero rm_X5_nearerToZero rm_X5_nearerToZero.cells rm_X5_nearerToZero.slots 2 ∧ (Cond.static yX5_nearerToZero).before args s = true := va_cwS 2 hts (gdS w_11_17 w_11_18 w_1_23 w_11_19) rfl rfl rfl (by decide +kernel) hR
def wp_X5_run_L16 (post : St → Prop) (K : St → Prop) : Nat → St → Int32 → Prop
  | 0, _, _ => False
  | n16 + 1, t2, v1 => ((60 ≤ v1) → (K t2)) ∧ ((¬ 60 ≤ v1) → (vp_in v1 61 ∧ (wp_X6_paceAt t2 v1 (gA t2 9 v1.toNatClampNeg) (fun r4 => vp_in v1 61 ∧ (wp_J9_floorMod_7cf53 ((gA t2 8 v1.toNatClampNeg) + r4) 240 (fun r6 => vp_in (v1 + 1) 61 ∧ (wp_X7_slows (sA t2 8 (upd (gA t2 8) (v1 + 1).toNatClampNeg r6)) (fun r8 => wp_X5_nearerToZero r4 r8 (fun r10 => vp_in (v1 + 1) 61 ∧ (∀ x12 : Int32, x12 = v1 + 1 → (wp_X5_run_L16 post K n16 (sA (sA t2 8 (upd (gA t2 8) (v1 + 1).toNatClampNeg r6)) 9 (upd (gA t2 9) (v1 + 1).toNatClampNeg r10)) x12)))))))))))
def wp_X5_run (st : St) (a2 : Int32) (post : St → Prop) : Prop := ∃ m16 : Nat, wp_X5_run_L16 post (fun t14 => post t14) m16 (sA (sA st 8 (upd (gA st 8) (0 : Int32).toNatClampNeg 0)) 9 (upd (gA st 9) (0 : Int32).toNatClampNeg a2)) 0
set_option maxHeartbeats 4000000 in
set_option maxRecDepth 100000 in
theorem c_X5_run (l : Launch) (D : va_G) (cy : Nat → ClassId) (tz : Nat → Nat) (ad : Nat → Nat) (st : St) (a2 : Int32) (post : St → Prop) (h : wp_X5_run st a2 post) : CtV l D cy tz yX5_run ws_X5_run rm_X5_run [.ref (ad 13), .ref (ad 3), .int a2] (wX cy ad st) (wX cy ad) post := by
  refine CtV.of (own := RX5) (nm := "run") (lv := [(0, .ref (ad 13)), (1, .ref (ad 3)), (2, .int a2)]) (plainFor_of_name (by decide)) rfl rfl (Nat.le_of_ble_eq_true rfl) rfl ?_
  intro p e s m args below meth c A Q ls B hP hD hS hl hret
  obtain ⟨hx, hb, hml, hown, hts, hK, hZ, hA, hnm⟩ := B
  have SF : CallFix p m c cX5_run 5 s args wsL_law RX5 := ⟨hx, hb, hml, hown, hts⟩
  unfold wp_X5_run at h
  refine lv_aload_n hx hb dX5_run_0 rfl (lv_at hl 0 rfl) ?_
  refine va_get (D := D) (ci := 5) (v := .ref (ad 14)) (C := RX5) (T := TX5) (N := 2) hx hb hts inlX5 hown hK hP 13 rfl rfl 0 (by decide) (hts _ w_4_8) (fun _ h9 => h9) rfl dX5_run_1 ?_
  refine lv_iconst (v := 0) hx hb dX5_run_4 (by decide) ?_
  refine lv_iconst (v := 0) hx hb dX5_run_5 (by decide) ?_
  refine va_iast (f := gA st 8) (n := 61) hx hb hK hP hD hS 14 0 rfl rfl (vin (by decide +kernel)) dX5_run_6 (fun H locs hP hD hS => ?_)
  have hP : va_P D vwCl (wX cy ad (sA st 8 (upd (gA st 8) (0 : Int32).toNatClampNeg 0))) H := hP
  have hD : va_D A (wX cy ad (sA st 8 (upd (gA st 8) (0 : Int32).toNatClampNeg 0))) := hD
  refine lv_aload_n hx hb dX5_run_7 rfl (lv_at hl 0 rfl) ?_
  refine va_get (D := D) (ci := 5) (v := .ref (ad 15)) (C := RX5) (T := TX5) (N := 2) hx hb hts inlX5 hown hK hP 13 rfl rfl 1 (by decide) (hts _ w_4_9) (fun _ h9 => h9) rfl dX5_run_8 ?_
  refine lv_iconst (v := 0) hx hb dX5_run_11 (by decide) ?_
  refine lv_iload_n hx hb dX5_run_12 rfl (lv_at hl 2 rfl) ?_
  refine va_iast (f := gA st 9) (n := 61) hx hb hK hP hD hS 15 0 rfl rfl (vin (by decide +kernel)) dX5_run_13 (fun H locs hP hD hS => ?_)
  have hP : va_P D vwCl (wX cy ad (sA (sA st 8 (upd (gA st 8) (0 : Int32).toNatClampNeg 0)) 9 (upd (gA st 9) (0 : Int32).toNatClampNeg a2))) H := hP
  have hD : va_D A (wX cy ad (sA (sA st 8 (upd (gA st 8) (0 : Int32).toNatClampNeg 0)) 9 (upd (gA st 9) (0 : Int32).toNatClampNeg a2))) := hD
  refine lv_iconst (v := 0) hx hb dX5_run_14 (by decide) ?_
  refine lv_istore_n (lv' := [(3, .int 0), (0, .ref (ad 13)), (1, .ref (ad 3)), (2, .int a2)]) hx hb dX5_run_15 rfl hl (by decide) rfl (fun ls hl => ?_)
  have loop16 : ∀ (K : St → Prop), (∀ (t14 : St) (H : Heap) (locs : List Loc) (ls : Array Slot), K t14 → va_P D vwCl (wX cy ad t14) H → va_D A (wX cy ad t14) → va_S A s.heap H locs → lv_has ls 5 [] → W p l e rm_X5_run s m args below meth c H locs 0 0 Q (F0 m 84 ls [])) → ∀ (n : Nat) (t2 : St) (v1 : Int32) (H : Heap) (locs : List Loc) (ls : Array Slot), wp_X5_run_L16 post K n t2 v1 → va_P D vwCl (wX cy ad t2) H → va_D A (wX cy ad t2) → va_S A s.heap H locs → lv_has ls 5 [(0, .ref (ad 13)), (1, .ref (ad 3)), (3, .int v1)] → W p l e rm_X5_run s m args below meth c H locs 0 0 Q (F0 m 16 ls []) := by
    intro K hE16 n
    induction n with
    | zero => intro t2 v1 H locs ls h; exact h.elim
    | succ n ih16 =>
      intro t2 v1 H locs ls h hP hD hS hl
      rw [wp_X5_run_L16] at h
      refine lv_iload_n hx hb dX5_run_16 rfl (lv_at hl 2 rfl) ?_
      refine lv_bipush (v := 60) hx hb dX5_run_17 (by decide) ?_
      refine lv_icmp_ge (tgt := 84) hx hb dX5_run_19 (by decide) (fun c3 => ?_) (fun c3 => ?_)
      · have h := h.1 c3
        exact hE16 _ _ _ _ h hP hD hS (lv_sub hl [] rfl)
      · have h := h.2 c3
        refine lv_aload_n hx hb dX5_run_22 rfl (lv_at hl 1 rfl) ?_
        refine va_get (D := D) (ci := 7) (v := .ref (ad 5)) (C := RX7) (T := TX7) (N := 6) hx hb hts inlX7 hown hK hP 3 rfl rfl 1 (by decide) (hts _ w_10_21) (fun _ h9 => h9) rfl dX5_run_23 ?_
        refine lv_iload_n hx hb dX5_run_26 rfl (lv_at hl 2 rfl) ?_
        refine lv_aload_n hx hb dX5_run_27 rfl (lv_at hl 0 rfl) ?_
        refine va_get (D := D) (ci := 5) (v := .ref (ad 15)) (C := RX5) (T := TX5) (N := 2) hx hb hts inlX5 hown hK hP 13 rfl rfl 1 (by decide) (hts _ w_4_9) (fun _ h9 => h9) rfl dX5_run_28 ?_
        refine lv_iload_n hx hb dX5_run_31 rfl (lv_at hl 2 rfl) ?_
        refine va_iald (f := gA t2 9) (n := 61) hx hb hK hP 15 0 rfl rfl h.1 dX5_run_32 ?_
        have h := h.2
        refine callVIr (rest := []) SF (c_X6_paceAt l D cy tz ad t2 v1 (gA t2 9 v1.toNatClampNeg) _ h) (cw_RX5_24 hts ⟨Nat.le_of_ble_eq_true rfl, Nat.le_of_ble_eq_true rfl⟩) rfl rfl (va_recv hK hP (ci := 6) (q0 := 5) rfl rfl) hK hZ hA hP hD hS rfl hl.1 rfl (Nat.le_of_ble_eq_true rfl) dX5_run_33 ⟨Nat.zero_le _, Nat.zero_le _⟩ (fun r4 H locs h hP hD hS => ?_)
        refine lv_istore (lv' := [(4, .int r4), (0, .ref (ad 13)), (1, .ref (ad 3)), (3, .int v1)]) hx hb dX5_run_36 hl (by decide) rfl (fun ls hl => ?_)
        refine lv_aload_n hx hb dX5_run_38 rfl (lv_at hl 1 rfl) ?_
        refine va_get (D := D) (ci := 5) (v := .ref (ad 14)) (C := RX5) (T := TX5) (N := 2) hx hb hts inlX5 hown hK hP 13 rfl rfl 0 (by decide) (hts _ w_4_8) (fun _ h9 => h9) rfl dX5_run_39 ?_
        refine lv_iload_n hx hb dX5_run_42 rfl (lv_at hl 3 rfl) ?_
        refine lv_iconst (v := 1) hx hb dX5_run_43 (by decide) ?_
        refine lv_iadd hx hb dX5_run_44 ?_
        refine lv_aload_n hx hb dX5_run_45 rfl (lv_at hl 1 rfl) ?_
        refine va_get (D := D) (ci := 5) (v := .ref (ad 14)) (C := RX5) (T := TX5) (N := 2) hx hb hts inlX5 hown hK hP 13 rfl rfl 0 (by decide) (hts _ w_4_8) (fun _ h9 => h9) rfl dX5_run_46 ?_
        refine lv_iload_n hx hb dX5_run_49 rfl (lv_at hl 3 rfl) ?_
        refine va_iald (f := gA t2 8) (n := 61) hx hb hK hP 14 0 rfl rfl h.1 dX5_run_50 ?_
        have h := h.2
        refine lv_iload hx hb dX5_run_51 (lv_at hl 0 rfl) ?_
        refine lv_iadd hx hb dX5_run_53 ?_
        refine lv_sipush (v := 240) hx hb dX5_run_54 (by decide) ?_
        refine callSIr (rest := [.int (v1 + 1), .ref (ad 14)]) SF (c_J9_floorMod_7cf53 l D cy tz _ ((gA t2 8 v1.toNatClampNeg) + r4) 240 _ h) (cw_RX5_30 hts ⟨Nat.le_of_ble_eq_true rfl, Nat.le_of_ble_eq_true rfl⟩) rfl rfl hK hZ hA hP hD hS rfl hl.1 rfl (Nat.le_of_ble_eq_true rfl) dX5_run_57 ⟨Nat.zero_le _, Nat.zero_le _⟩ (fun r6 H locs h hP hD hS => ?_)
        refine va_iast (f := gA t2 8) (n := 61) hx hb hK hP hD hS 14 0 rfl rfl h.1 dX5_run_60 (fun H locs hP hD hS => ?_)
        have h := h.2
        have hP : va_P D vwCl (wX cy ad (sA t2 8 (upd (gA t2 8) (v1 + 1).toNatClampNeg r6))) H := hP
        have hD : va_D A (wX cy ad (sA t2 8 (upd (gA t2 8) (v1 + 1).toNatClampNeg r6))) := hD
        refine lv_aload_n hx hb dX5_run_61 rfl (lv_at hl 1 rfl) ?_
        refine va_get (D := D) (ci := 5) (v := .ref (ad 15)) (C := RX5) (T := TX5) (N := 2) hx hb hts inlX5 hown hK hP 13 rfl rfl 1 (by decide) (hts _ w_4_9) (fun _ h9 => h9) rfl dX5_run_62 ?_
        refine lv_iload_n hx hb dX5_run_65 rfl (lv_at hl 3 rfl) ?_
        refine lv_iconst (v := 1) hx hb dX5_run_66 (by decide) ?_
        refine lv_iadd hx hb dX5_run_67 ?_
        refine lv_iload hx hb dX5_run_68 (lv_at hl 0 rfl) ?_
        refine lv_aload_n hx hb dX5_run_70 rfl (lv_at hl 2 rfl) ?_
        refine callVIr (rest := [.int r4, .int (v1 + 1), .ref (ad 15)]) SF (c_X7_slows l D cy tz ad (sA t2 8 (upd (gA t2 8) (v1 + 1).toNatClampNeg r6)) _ h) (cw_RX5_35 hts ⟨Nat.le_of_ble_eq_true rfl, Nat.le_of_ble_eq_true rfl⟩) rfl rfl (va_recv hK hP (ci := 7) (q0 := 3) rfl rfl) hK hZ hA hP hD hS rfl hl.1 rfl (Nat.le_of_ble_eq_true rfl) dX5_run_71 ⟨Nat.zero_le _, Nat.zero_le _⟩ (fun r8 H locs h hP hD hS => ?_)
        refine callSIr (rest := [.int (v1 + 1), .ref (ad 15)]) SF (c_X5_nearerToZero l D cy tz _ r4 r8 _ h) (cw_RX5_39 hts ⟨Nat.le_of_ble_eq_true rfl, Nat.le_of_ble_eq_true rfl⟩) rfl rfl hK hZ hA hP hD hS rfl hl.1 rfl (Nat.le_of_ble_eq_true rfl) dX5_run_74 ⟨Nat.zero_le _, Nat.zero_le _⟩ (fun r10 H locs h hP hD hS => ?_)
        refine va_iast (f := gA t2 9) (n := 61) hx hb hK hP hD hS 15 0 rfl rfl h.1 dX5_run_77 (fun H locs hP hD hS => ?_)
        have h := h.2
        have hP : va_P D vwCl (wX cy ad (sA (sA t2 8 (upd (gA t2 8) (v1 + 1).toNatClampNeg r6)) 9 (upd (gA t2 9) (v1 + 1).toNatClampNeg r10))) H := hP
        have hD : va_D A (wX cy ad (sA (sA t2 8 (upd (gA t2 8) (v1 + 1).toNatClampNeg r6)) 9 (upd (gA t2 9) (v1 + 1).toNatClampNeg r10))) := hD
        obtain ⟨x12, e13⟩ : ∃ z : Int32, z = v1 + 1 := ⟨_, rfl⟩
        have h := h x12 e13
        refine lv_iinc (v := x12) (lv' := [(3, .int x12), (4, .int r4), (0, .ref (ad 13)), (1, .ref (ad 3))]) hx hb dX5_run_78 hl (k := 3) rfl (by rw [e13]; rfl) (by decide) rfl (fun ls hl => ?_)
        refine lv_goto (tgt := 16) hx hb dX5_run_81 (by decide) ?_
        exact ih16 _ _ _ _ _ h hP hD hS (lv_sub hl [2, 3, 0] rfl)
  obtain ⟨n, h⟩ := h
  refine loop16 _ ?_ n _ _ _ _ _ h hP hD hS (lv_sub hl [1, 2, 0] rfl)
  intro t14 H locs ls h hP hD hS hl
  exact hret _ _ _ _ _ h hP hD hS dX5_run_84
-- X6_numberBehind
def rm_X6_numberBehind : Room := { frames := 1, cells := 0, slots := 0, locals := 20 }
abbrev ws_X6_numberBehind : List Cond := .code yX6_numberBehind cX6_numberBehind 4 (some .int) :: wsL_law
theorem cw_RX6_33 {R : Room} {s : State} {args : Array Value} (hts : ∀ w ∈ wsL_law, w.before args s = true) (hR : rm_X4_isDigit.frames + 1 ≤ R.frames ∧ 8 + (1 + 11) + rm_X4_isDigit.locals ≤ R.locals) : CallB R s args RX6 33 yX4_isDigit cX4_isDigit 1 (some .boolean) ws_X4_isDigit rm_X4_isDigit rm_X4_isDigit.cells rm_X4_isDigit.slots 1 ∧ (Cond.static yX4_isDigit).before args s = true := va_cwS 1 hts (gdS w_9_17 w_8_15 w_1_14 w_8_16) rfl rfl rfl (by decide +kernel) hR
def wp_X6_numberBehind_L6 (post : Int32 → Prop) (K : Int32 → Prop) (st : St) : Nat → Int32 → Int32 → Prop
  | 0, _, _ => False
  | n6 + 1, v3, v4 => ((gI st 0 ≤ v4) → (K v3)) ∧ ((¬ gI st 0 ≤ v4) → (vp_in v4 40 ∧ (wp_X4_isDigit (gA st 0 v4.toNatClampNeg) (fun r7 => ((r7 = 0) → (K v3)) ∧ ((¬ r7 = 0) → (vp_in v4 40 ∧ (∀ x10 : Int32, x10 = (((v3 * 10) + (gA st 0 v4.toNatClampNeg)) - 48) → (∀ x12 : Int32, x12 = v4 + 1 → (wp_X6_numberBehind_L6 post K st n6 x10 x12)))))))))
def wp_X6_numberBehind (st : St) (a2 : Int32) (post : Int32 → Prop) : Prop := ∀ x1 : Int32, x1 = (a2 + 1) → (∃ m6 : Nat, wp_X6_numberBehind_L6 post (fun v14 => post v14) st m6 0 x1)
set_option maxHeartbeats 4000000 in
set_option maxRecDepth 100000 in
theorem c_X6_numberBehind (l : Launch) (D : va_G) (cy : Nat → ClassId) (tz : Nat → Nat) (ad : Nat → Nat) (st : St) (a2 : Int32) (post : Int32 → Prop) (h : wp_X6_numberBehind st a2 post) : CtI l D cy tz yX6_numberBehind ws_X6_numberBehind rm_X6_numberBehind [.ref (ad 1), .int a2] (wX cy ad st) (fun _ : Unit => wX cy ad st) (fun r _ => post r) := by
  refine CtI.of (own := RX6) (nm := "numberBehind") (lv := [(0, .ref (ad 1)), (1, .int a2)]) (plainFor_of_name (by decide)) rfl rfl (Nat.le_of_ble_eq_true rfl) rfl ?_
  intro p e s m args below meth c A Q ls B hP hD hS hl hret
  obtain ⟨hx, hb, hml, hown, hts, hK, hZ, hA, hnm⟩ := B
  have SF : CallFix p m c cX6_numberBehind 4 s args wsL_law RX6 := ⟨hx, hb, hml, hown, hts⟩
  unfold wp_X6_numberBehind at h
  refine lv_iconst (v := 0) hx hb dX6_numberBehind_0 (by decide) ?_
  refine lv_istore_n (lv' := [(2, .int 0), (0, .ref (ad 1)), (1, .int a2)]) hx hb dX6_numberBehind_1 rfl hl (by decide) rfl (fun ls hl => ?_)
  refine lv_iload_n hx hb dX6_numberBehind_2 rfl (lv_at hl 2 rfl) ?_
  refine lv_iconst (v := 1) hx hb dX6_numberBehind_3 (by decide) ?_
  refine lv_iadd hx hb dX6_numberBehind_4 ?_
  refine lv_topi (fun x1 e2 => ?_)
  have h := h x1 e2
  refine lv_istore_n (lv' := [(3, .int x1), (2, .int 0), (0, .ref (ad 1)), (1, .int a2)]) hx hb dX6_numberBehind_5 rfl hl (by decide) rfl (fun ls hl => ?_)
  have loop6 : ∀ (K : Int32 → Prop), (∀ (v14 : Int32) (H : Heap) (locs : List Loc) (ls : Array Slot), K v14 → va_P D vwCl (wX cy ad st) H → va_D A (wX cy ad st) → va_S A s.heap H locs → lv_has ls 4 [(2, .int v14)] → W p l e rm_X6_numberBehind s m args below meth c H locs 0 0 Q (F0 m 47 ls [])) → ∀ (n : Nat) (v3 : Int32) (v4 : Int32) (H : Heap) (locs : List Loc) (ls : Array Slot), wp_X6_numberBehind_L6 post K st n v3 v4 → va_P D vwCl (wX cy ad st) H → va_D A (wX cy ad st) → va_S A s.heap H locs → lv_has ls 4 [(0, .ref (ad 1)), (2, .int v3), (3, .int v4)] → W p l e rm_X6_numberBehind s m args below meth c H locs 0 0 Q (F0 m 6 ls []) := by
    intro K hE6 n
    induction n with
    | zero => intro v3 v4 H locs ls h; exact h.elim
    | succ n ih6 =>
      intro v3 v4 H locs ls h hP hD hS hl
      rw [wp_X6_numberBehind_L6] at h
      refine lv_iload_n hx hb dX6_numberBehind_6 rfl (lv_at hl 2 rfl) ?_
      refine lv_aload_n hx hb dX6_numberBehind_7 rfl (lv_at hl 0 rfl) ?_
      refine va_get (D := D) (ci := 4) (v := .int (gI st 0)) (C := RX4) (T := TX4) (N := 2) hx hb hts inlX4 hown hK hP 1 rfl rfl 1 (by decide) (hts _ w_9_15) (fun _ h9 => h9) rfl dX6_numberBehind_8 ?_
      refine lv_icmp_ge (tgt := 47) hx hb dX6_numberBehind_11 (by decide) (fun c6 => ?_) (fun c6 => ?_)
      · have h := h.1 c6
        exact hE6 _ _ _ _ h hP hD hS (lv_sub hl [1] rfl)
      · have h := h.2 c6
        refine lv_aload_n hx hb dX6_numberBehind_14 rfl (lv_at hl 0 rfl) ?_
        refine va_get (D := D) (ci := 4) (v := .ref (ad 2)) (C := RX4) (T := TX4) (N := 2) hx hb hts inlX4 hown hK hP 1 rfl rfl 0 (by decide) (hts _ w_9_16) (fun _ h9 => h9) rfl dX6_numberBehind_15 ?_
        refine lv_iload_n hx hb dX6_numberBehind_18 rfl (lv_at hl 2 rfl) ?_
        refine va_iald (f := gA st 0) (n := 40) hx hb hK hP 2 0 rfl rfl h.1 dX6_numberBehind_19 ?_
        have h := h.2
        refine callSIr (rest := []) SF (c_X4_isDigit l D cy tz _ (gA st 0 v4.toNatClampNeg) _ h) (cw_RX6_33 hts ⟨Nat.le_of_ble_eq_true rfl, Nat.le_of_ble_eq_true rfl⟩) rfl rfl hK hZ hA hP hD hS rfl hl.1 rfl (Nat.le_of_ble_eq_true rfl) dX6_numberBehind_20 ⟨Nat.zero_le _, Nat.zero_le _⟩ (fun r7 H locs h hP hD hS => ?_)
        refine lv_if_eq (tgt := 47) hx hb dX6_numberBehind_23 (by decide) (fun c9 => ?_) (fun c9 => ?_)
        · have h := h.1 c9
          exact hE6 _ _ _ _ h hP hD hS (lv_sub hl [1] rfl)
        · have h := h.2 c9
          refine lv_iload_n hx hb dX6_numberBehind_26 rfl (lv_at hl 1 rfl) ?_
          refine lv_bipush (v := 10) hx hb dX6_numberBehind_27 (by decide) ?_
          refine lv_imul hx hb dX6_numberBehind_29 ?_
          refine lv_aload_n hx hb dX6_numberBehind_30 rfl (lv_at hl 0 rfl) ?_
          refine va_get (D := D) (ci := 4) (v := .ref (ad 2)) (C := RX4) (T := TX4) (N := 2) hx hb hts inlX4 hown hK hP 1 rfl rfl 0 (by decide) (hts _ w_9_16) (fun _ h9 => h9) rfl dX6_numberBehind_31 ?_
          refine lv_iload_n hx hb dX6_numberBehind_34 rfl (lv_at hl 2 rfl) ?_
          refine va_iald (f := gA st 0) (n := 40) hx hb hK hP 2 0 rfl rfl h.1 dX6_numberBehind_35 ?_
          have h := h.2
          refine lv_iadd hx hb dX6_numberBehind_36 ?_
          refine lv_bipush (v := 48) hx hb dX6_numberBehind_37 (by decide) ?_
          refine lv_isub hx hb dX6_numberBehind_39 ?_
          refine lv_topi (fun x10 e11 => ?_)
          have h := h x10 e11
          refine lv_istore_n (lv' := [(2, .int x10), (0, .ref (ad 1)), (3, .int v4)]) hx hb dX6_numberBehind_40 rfl hl (by decide) rfl (fun ls hl => ?_)
          obtain ⟨x12, e13⟩ : ∃ z : Int32, z = v4 + 1 := ⟨_, rfl⟩
          have h := h x12 e13
          refine lv_iinc (v := x12) (lv' := [(3, .int x12), (2, .int x10), (0, .ref (ad 1))]) hx hb dX6_numberBehind_41 hl (k := 2) rfl (by rw [e13]; rfl) (by decide) rfl (fun ls hl => ?_)
          refine lv_goto (tgt := 6) hx hb dX6_numberBehind_44 (by decide) ?_
          exact ih6 _ _ _ _ _ h hP hD hS (lv_sub hl [2, 1, 0] rfl)
  obtain ⟨n, h⟩ := h
  refine loop6 _ ?_ n _ _ _ _ _ h hP hD hS (lv_sub hl [2, 1, 0] rfl)
  intro v14 H locs ls h hP hD hS hl
  refine lv_iload_n hx hb dX6_numberBehind_47 rfl (lv_at hl 0 rfl) ?_
  exact hret _ () _ _ _ _ rfl h hP hD hS dX6_numberBehind_48
-- X6_read
def rm_X6_read : Room := { frames := 2, cells := 0, slots := 0, locals := 43 }
abbrev ws_X6_read : List Cond := .code yX6_read cX6_read 6 none :: wsL_law
theorem cw_RX6_37 {R : Room} {s : State} {args : Array Value} (hts : ∀ w ∈ wsL_law, w.before args s = true) (hR : rm_X6_numberBehind.frames + 1 ≤ R.frames ∧ 8 + (4 + 11) + rm_X6_numberBehind.locals ≤ R.locals) : CallB R s args RX6 37 yX6_numberBehind cX6_numberBehind 4 (some .int) ws_X6_numberBehind rm_X6_numberBehind rm_X6_numberBehind.cells rm_X6_numberBehind.slots 2 ∧ (Cond.static yX6_numberBehind).before args s = true := va_cwS 2 hts (gdS w_9_18 w_9_19 w_3_11 w_9_20) rfl rfl rfl (by decide +kernel) hR
def wp_X6_read_L14 (post : St → Prop) (K : St → Prop) : Nat → St → Int32 → Int32 → Prop
  | 0, _, _, _ => False
  | n14 + 1, t3, v1, v2 => ((gI t3 0 ≤ v2) → (K t3)) ∧ ((¬ gI t3 0 ≤ v2) → (vp_in v2 40 ∧ (∀ x5 : Int32, x5 = (gA t3 0 v2.toNatClampNeg) → (wp_X4_isDigit x5 (fun r7 => ((r7 = 0) → (∀ x10 : Int32, x10 = (gI t3 3 + 1) → (wp_X6_numberBehind (sI t3 3 x10) v2 (fun r12 => ((¬ x5 = 46) → (((20 ≤ gI t3 2) → (∀ x16 : Int32, x16 = v2 + 1 → (wp_X6_read_L14 post K n14 (sI t3 3 x10) v1 x16))) ∧ ((¬ 20 ≤ gI t3 2) → (vp_in (gI t3 2) 20 ∧ (((¬ x5 = 43) → (∀ x19 : Int32, x19 = (-r12) → (vp_in (gI t3 2) 20 ∧ (∀ x21 : Int32, x21 = (gI t3 2 + 1) → (∀ x23 : Int32, x23 = v2 + 1 → (wp_X6_read_L14 post K n14 (sI (sA (sA (sI t3 3 x10) 2 (upd (gA t3 2) (gI t3 2).toNatClampNeg v1)) 3 (upd (gA t3 3) (gI t3 2).toNatClampNeg x19)) 2 x21) v1 x23)))))) ∧ ((x5 = 43) → (vp_in (gI t3 2) 20 ∧ (∀ x25 : Int32, x25 = (gI t3 2 + 1) → (∀ x27 : Int32, x27 = v2 + 1 → (wp_X6_read_L14 post K n14 (sI (sA (sA (sI t3 3 x10) 2 (upd (gA t3 2) (gI t3 2).toNatClampNeg v1)) 3 (upd (gA t3 3) (gI t3 2).toNatClampNeg r12)) 2 x25) v1 x27)))))))))) ∧ ((x5 = 46) → (∀ x29 : Int32, x29 = (v1 + r12) → (∀ x31 : Int32, x31 = v2 + 1 → (wp_X6_read_L14 post K n14 (sI t3 3 x10) x29 x31)))))))) ∧ ((¬ r7 = 0) → (∀ x33 : Int32, x33 = v2 + 1 → (wp_X6_read_L14 post K n14 t3 v1 x33))))))))
def wp_X6_read (st : St) (post : St → Prop) : Prop := ∃ m14 : Nat, wp_X6_read_L14 post (fun t35 => post t35) m14 (sI (sI st 2 0) 3 0) 0 0
set_option maxHeartbeats 4000000 in
set_option maxRecDepth 100000 in
theorem c_X6_read (l : Launch) (D : va_G) (cy : Nat → ClassId) (tz : Nat → Nat) (ad : Nat → Nat) (st : St) (post : St → Prop) (h : wp_X6_read st post) : CtV l D cy tz yX6_read ws_X6_read rm_X6_read [.ref (ad 5), .ref (ad 1)] (wX cy ad st) (wX cy ad) post := by
  refine CtV.of (own := RX6) (nm := "read") (lv := [(0, .ref (ad 5)), (1, .ref (ad 1))]) (plainFor_of_name (by decide)) rfl rfl (Nat.le_of_ble_eq_true rfl) rfl ?_
  intro p e s m args below meth c A Q ls B hP hD hS hl hret
  obtain ⟨hx, hb, hml, hown, hts, hK, hZ, hA, hnm⟩ := B
  have SF : CallFix p m c cX6_read 6 s args wsL_law RX6 := ⟨hx, hb, hml, hown, hts⟩
  unfold wp_X6_read at h
  refine lv_aload_n hx hb dX6_read_0 rfl (lv_at hl 0 rfl) ?_
  refine lv_iconst (v := 0) hx hb dX6_read_1 (by decide) ?_
  refine va_put (D := D) (ci := 6) (v := .int 0) (ty := .int) (C := RX6) (T := TX6) (N := 4) hx hb hts inlX6 tyX6 tyX6_ok nmX6 hown hK hP hD hS 5 rfl rfl 2 (by decide) (hts _ w_9_13) (fun _ h9 => h9) rfl (by decide +kernel) rfl rfl (Nat.le_of_ble_eq_true rfl) dX6_read_2 (fun H locs hP hD hS => ?_)
  have hP : va_P D vwCl (wX cy ad (sI st 2 0)) H := hP
  have hD : va_D A (wX cy ad (sI st 2 0)) := hD
  refine lv_aload_n hx hb dX6_read_5 rfl (lv_at hl 0 rfl) ?_
  refine lv_iconst (v := 0) hx hb dX6_read_6 (by decide) ?_
  refine va_put (D := D) (ci := 6) (v := .int 0) (ty := .int) (C := RX6) (T := TX6) (N := 4) hx hb hts inlX6 tyX6 tyX6_ok nmX6 hown hK hP hD hS 5 rfl rfl 3 (by decide) (hts _ w_9_14) (fun _ h9 => h9) rfl (by decide +kernel) rfl rfl (Nat.le_of_ble_eq_true rfl) dX6_read_7 (fun H locs hP hD hS => ?_)
  have hP : va_P D vwCl (wX cy ad (sI (sI st 2 0) 3 0)) H := hP
  have hD : va_D A (wX cy ad (sI (sI st 2 0) 3 0)) := hD
  refine lv_iconst (v := 0) hx hb dX6_read_10 (by decide) ?_
  refine lv_istore_n (lv' := [(2, .int 0), (0, .ref (ad 5)), (1, .ref (ad 1))]) hx hb dX6_read_11 rfl hl (by decide) rfl (fun ls hl => ?_)
  refine lv_iconst (v := 0) hx hb dX6_read_12 (by decide) ?_
  refine lv_istore_n (lv' := [(3, .int 0), (2, .int 0), (0, .ref (ad 5)), (1, .ref (ad 1))]) hx hb dX6_read_13 rfl hl (by decide) rfl (fun ls hl => ?_)
  have loop14 : ∀ (K : St → Prop), (∀ (t35 : St) (H : Heap) (locs : List Loc) (ls : Array Slot), K t35 → va_P D vwCl (wX cy ad t35) H → va_D A (wX cy ad t35) → va_S A s.heap H locs → lv_has ls 6 [] → W p l e rm_X6_read s m args below meth c H locs 0 0 Q (F0 m 132 ls [])) → ∀ (n : Nat) (t3 : St) (v1 : Int32) (v2 : Int32) (H : Heap) (locs : List Loc) (ls : Array Slot), wp_X6_read_L14 post K n t3 v1 v2 → va_P D vwCl (wX cy ad t3) H → va_D A (wX cy ad t3) → va_S A s.heap H locs → lv_has ls 6 [(0, .ref (ad 5)), (1, .ref (ad 1)), (2, .int v1), (3, .int v2)] → W p l e rm_X6_read s m args below meth c H locs 0 0 Q (F0 m 14 ls []) := by
    intro K hE14 n
    induction n with
    | zero => intro t3 v1 v2 H locs ls h; exact h.elim
    | succ n ih14 =>
      intro t3 v1 v2 H locs ls h hP hD hS hl
      rw [wp_X6_read_L14] at h
      refine lv_iload_n hx hb dX6_read_14 rfl (lv_at hl 3 rfl) ?_
      refine lv_aload_n hx hb dX6_read_15 rfl (lv_at hl 1 rfl) ?_
      refine va_get (D := D) (ci := 4) (v := .int (gI t3 0)) (C := RX4) (T := TX4) (N := 2) hx hb hts inlX4 hown hK hP 1 rfl rfl 1 (by decide) (hts _ w_9_15) (fun _ h9 => h9) rfl dX6_read_16 ?_
      refine lv_icmp_ge (tgt := 132) hx hb dX6_read_19 (by decide) (fun c4 => ?_) (fun c4 => ?_)
      · have h := h.1 c4
        exact hE14 _ _ _ _ h hP hD hS (lv_sub hl [] rfl)
      · have h := h.2 c4
        refine lv_aload_n hx hb dX6_read_22 rfl (lv_at hl 1 rfl) ?_
        refine va_get (D := D) (ci := 4) (v := .ref (ad 2)) (C := RX4) (T := TX4) (N := 2) hx hb hts inlX4 hown hK hP 1 rfl rfl 0 (by decide) (hts _ w_9_16) (fun _ h9 => h9) rfl dX6_read_23 ?_
        refine lv_iload_n hx hb dX6_read_26 rfl (lv_at hl 3 rfl) ?_
        refine va_iald (f := gA t3 0) (n := 40) hx hb hK hP 2 0 rfl rfl h.1 dX6_read_27 ?_
        have h := h.2
        refine lv_topi (fun x5 e6 => ?_)
        have h := h x5 e6
        refine lv_istore (lv' := [(4, .int x5), (0, .ref (ad 5)), (1, .ref (ad 1)), (2, .int v1), (3, .int v2)]) hx hb dX6_read_28 hl (by decide) rfl (fun ls hl => ?_)
        refine lv_iload hx hb dX6_read_30 (lv_at hl 0 rfl) ?_
        refine callSIr (rest := []) SF (c_X4_isDigit l D cy tz _ x5 _ h) (cw_RX6_33 hts ⟨Nat.le_of_ble_eq_true rfl, Nat.le_of_ble_eq_true rfl⟩) rfl rfl hK hZ hA hP hD hS rfl hl.1 rfl (Nat.le_of_ble_eq_true rfl) dX6_read_32 ⟨Nat.zero_le _, Nat.zero_le _⟩ (fun r7 H locs h hP hD hS => ?_)
        refine lv_if_eq (tgt := 41) hx hb dX6_read_35 (by decide) (fun c9 => ?_) (fun c9 => ?_)
        · have h := h.1 c9
          refine lv_aload_n hx hb dX6_read_41 rfl (lv_at hl 1 rfl) ?_
          refine lv_dup hx hb dX6_read_42 rfl ?_
          refine va_get (D := D) (ci := 6) (v := .int (gI t3 3)) (C := RX6) (T := TX6) (N := 4) hx hb hts inlX6 hown hK hP 5 rfl rfl 3 (by decide) (hts _ w_9_14) (fun _ h9 => h9) rfl dX6_read_43 ?_
          refine lv_iconst (v := 1) hx hb dX6_read_46 (by decide) ?_
          refine lv_iadd hx hb dX6_read_47 ?_
          refine lv_topi (fun x10 e11 => ?_)
          have h := h x10 e11
          refine va_put (D := D) (ci := 6) (v := .int x10) (ty := .int) (C := RX6) (T := TX6) (N := 4) hx hb hts inlX6 tyX6 tyX6_ok nmX6 hown hK hP hD hS 5 rfl rfl 3 (by decide) (hts _ w_9_14) (fun _ h9 => h9) rfl (by decide +kernel) rfl rfl (Nat.le_of_ble_eq_true rfl) dX6_read_48 (fun H locs hP hD hS => ?_)
          have hP : va_P D vwCl (wX cy ad (sI t3 3 x10)) H := hP
          have hD : va_D A (wX cy ad (sI t3 3 x10)) := hD
          refine lv_aload_n hx hb dX6_read_51 rfl (lv_at hl 2 rfl) ?_
          refine lv_iload_n hx hb dX6_read_52 rfl (lv_at hl 4 rfl) ?_
          refine callSIr (rest := []) SF (c_X6_numberBehind l D cy tz ad (sI t3 3 x10) v2 _ h) (cw_RX6_37 hts ⟨Nat.le_of_ble_eq_true rfl, Nat.le_of_ble_eq_true rfl⟩) rfl rfl hK hZ hA hP hD hS rfl hl.1 rfl (Nat.le_of_ble_eq_true rfl) dX6_read_53 ⟨Nat.zero_le _, Nat.zero_le _⟩ (fun r12 H locs h hP hD hS => ?_)
          refine lv_istore (lv' := [(5, .int r12), (4, .int x5), (0, .ref (ad 5)), (1, .ref (ad 1)), (2, .int v1), (3, .int v2)]) hx hb dX6_read_56 hl (by decide) rfl (fun ls hl => ?_)
          refine lv_iload hx hb dX6_read_58 (lv_at hl 1 rfl) ?_
          refine lv_bipush (v := 46) hx hb dX6_read_60 (by decide) ?_
          refine lv_icmp_ne (tgt := 73) hx hb dX6_read_62 (by decide) (fun c14 => ?_) (fun c14 => ?_)
          · have h := h.1 c14
            refine lv_aload_n hx hb dX6_read_73 rfl (lv_at hl 2 rfl) ?_
            refine va_get (D := D) (ci := 6) (v := .int (gI t3 2)) (C := RX6) (T := TX6) (N := 4) hx hb hts inlX6 hown hK hP 5 rfl rfl 2 (by decide) (hts _ w_9_13) (fun _ h9 => h9) rfl dX6_read_74 ?_
            refine lv_bipush (v := 20) hx hb dX6_read_77 (by decide) ?_
            refine lv_icmp_ge (tgt := 126) hx hb dX6_read_79 (by decide) (fun c15 => ?_) (fun c15 => ?_)
            · have h := h.1 c15
              obtain ⟨x16, e17⟩ : ∃ z : Int32, z = v2 + 1 := ⟨_, rfl⟩
              have h := h x16 e17
              refine lv_iinc (v := x16) (lv' := [(3, .int x16), (5, .int r12), (4, .int x5), (0, .ref (ad 5)), (1, .ref (ad 1)), (2, .int v1)]) hx hb dX6_read_126 hl (k := 5) rfl (by rw [e17]; rfl) (by decide) rfl (fun ls hl => ?_)
              refine lv_goto (tgt := 14) hx hb dX6_read_129 (by decide) ?_
              exact ih14 _ _ _ _ _ _ h hP hD hS (lv_sub hl [3, 4, 5, 0] rfl)
            · have h := h.2 c15
              refine lv_aload_n hx hb dX6_read_82 rfl (lv_at hl 2 rfl) ?_
              refine va_get (D := D) (ci := 6) (v := .ref (ad 6)) (C := RX6) (T := TX6) (N := 4) hx hb hts inlX6 hown hK hP 5 rfl rfl 0 (by decide) (hts _ w_3_22) (fun _ h9 => h9) rfl dX6_read_83 ?_
              refine lv_aload_n hx hb dX6_read_86 rfl (lv_at hl 2 rfl) ?_
              refine va_get (D := D) (ci := 6) (v := .int (gI t3 2)) (C := RX6) (T := TX6) (N := 4) hx hb hts inlX6 hown hK hP 5 rfl rfl 2 (by decide) (hts _ w_9_13) (fun _ h9 => h9) rfl dX6_read_87 ?_
              refine lv_iload_n hx hb dX6_read_90 rfl (lv_at hl 4 rfl) ?_
              refine va_iast (f := gA t3 2) (n := 20) hx hb hK hP hD hS 6 0 rfl rfl h.1 dX6_read_91 (fun H locs hP hD hS => ?_)
              have h := h.2
              have hP : va_P D vwCl (wX cy ad (sA (sI t3 3 x10) 2 (upd (gA t3 2) (gI t3 2).toNatClampNeg v1))) H := hP
              have hD : va_D A (wX cy ad (sA (sI t3 3 x10) 2 (upd (gA t3 2) (gI t3 2).toNatClampNeg v1))) := hD
              refine lv_aload_n hx hb dX6_read_92 rfl (lv_at hl 2 rfl) ?_
              refine va_get (D := D) (ci := 6) (v := .ref (ad 7)) (C := RX6) (T := TX6) (N := 4) hx hb hts inlX6 hown hK hP 5 rfl rfl 1 (by decide) (hts _ w_3_23) (fun _ h9 => h9) rfl dX6_read_93 ?_
              refine lv_aload_n hx hb dX6_read_96 rfl (lv_at hl 2 rfl) ?_
              refine va_get (D := D) (ci := 6) (v := .int (gI t3 2)) (C := RX6) (T := TX6) (N := 4) hx hb hts inlX6 hown hK hP 5 rfl rfl 2 (by decide) (hts _ w_9_13) (fun _ h9 => h9) rfl dX6_read_97 ?_
              refine lv_iload hx hb dX6_read_100 (lv_at hl 1 rfl) ?_
              refine lv_bipush (v := 43) hx hb dX6_read_102 (by decide) ?_
              refine lv_icmp_ne (tgt := 112) hx hb dX6_read_104 (by decide) (fun c18 => ?_) (fun c18 => ?_)
              · have h := h.1 c18
                refine lv_iload hx hb dX6_read_112 (lv_at hl 0 rfl) ?_
                refine lv_ineg hx hb dX6_read_114 ?_
                refine lv_topi (fun x19 e20 => ?_)
                have h := h x19 e20
                refine va_iast (f := gA t3 3) (n := 20) hx hb hK hP hD hS 7 0 rfl rfl h.1 dX6_read_115 (fun H locs hP hD hS => ?_)
                have h := h.2
                have hP : va_P D vwCl (wX cy ad (sA (sA (sI t3 3 x10) 2 (upd (gA t3 2) (gI t3 2).toNatClampNeg v1)) 3 (upd (gA t3 3) (gI t3 2).toNatClampNeg x19))) H := hP
                have hD : va_D A (wX cy ad (sA (sA (sI t3 3 x10) 2 (upd (gA t3 2) (gI t3 2).toNatClampNeg v1)) 3 (upd (gA t3 3) (gI t3 2).toNatClampNeg x19))) := hD
                refine lv_aload_n hx hb dX6_read_116 rfl (lv_at hl 2 rfl) ?_
                refine lv_dup hx hb dX6_read_117 rfl ?_
                refine va_get (D := D) (ci := 6) (v := .int (gI t3 2)) (C := RX6) (T := TX6) (N := 4) hx hb hts inlX6 hown hK hP 5 rfl rfl 2 (by decide) (hts _ w_9_13) (fun _ h9 => h9) rfl dX6_read_118 ?_
                refine lv_iconst (v := 1) hx hb dX6_read_121 (by decide) ?_
                refine lv_iadd hx hb dX6_read_122 ?_
                refine lv_topi (fun x21 e22 => ?_)
                have h := h x21 e22
                refine va_put (D := D) (ci := 6) (v := .int x21) (ty := .int) (C := RX6) (T := TX6) (N := 4) hx hb hts inlX6 tyX6 tyX6_ok nmX6 hown hK hP hD hS 5 rfl rfl 2 (by decide) (hts _ w_9_13) (fun _ h9 => h9) rfl (by decide +kernel) rfl rfl (Nat.le_of_ble_eq_true rfl) dX6_read_123 (fun H locs hP hD hS => ?_)
                have hP : va_P D vwCl (wX cy ad (sI (sA (sA (sI t3 3 x10) 2 (upd (gA t3 2) (gI t3 2).toNatClampNeg v1)) 3 (upd (gA t3 3) (gI t3 2).toNatClampNeg x19)) 2 x21)) H := hP
                have hD : va_D A (wX cy ad (sI (sA (sA (sI t3 3 x10) 2 (upd (gA t3 2) (gI t3 2).toNatClampNeg v1)) 3 (upd (gA t3 3) (gI t3 2).toNatClampNeg x19)) 2 x21)) := hD
                obtain ⟨x23, e24⟩ : ∃ z : Int32, z = v2 + 1 := ⟨_, rfl⟩
                have h := h x23 e24
                refine lv_iinc (v := x23) (lv' := [(3, .int x23), (5, .int r12), (4, .int x5), (0, .ref (ad 5)), (1, .ref (ad 1)), (2, .int v1)]) hx hb dX6_read_126 hl (k := 5) rfl (by rw [e24]; rfl) (by decide) rfl (fun ls hl => ?_)
                refine lv_goto (tgt := 14) hx hb dX6_read_129 (by decide) ?_
                exact ih14 _ _ _ _ _ _ h hP hD hS (lv_sub hl [3, 4, 5, 0] rfl)
              · have h := h.2 c18
                refine lv_iload hx hb dX6_read_107 (lv_at hl 0 rfl) ?_
                refine lv_goto (tgt := 115) hx hb dX6_read_109 (by decide) ?_
                refine va_iast (f := gA t3 3) (n := 20) hx hb hK hP hD hS 7 0 rfl rfl h.1 dX6_read_115 (fun H locs hP hD hS => ?_)
                have h := h.2
                have hP : va_P D vwCl (wX cy ad (sA (sA (sI t3 3 x10) 2 (upd (gA t3 2) (gI t3 2).toNatClampNeg v1)) 3 (upd (gA t3 3) (gI t3 2).toNatClampNeg r12))) H := hP
                have hD : va_D A (wX cy ad (sA (sA (sI t3 3 x10) 2 (upd (gA t3 2) (gI t3 2).toNatClampNeg v1)) 3 (upd (gA t3 3) (gI t3 2).toNatClampNeg r12))) := hD
                refine lv_aload_n hx hb dX6_read_116 rfl (lv_at hl 2 rfl) ?_
                refine lv_dup hx hb dX6_read_117 rfl ?_
                refine va_get (D := D) (ci := 6) (v := .int (gI t3 2)) (C := RX6) (T := TX6) (N := 4) hx hb hts inlX6 hown hK hP 5 rfl rfl 2 (by decide) (hts _ w_9_13) (fun _ h9 => h9) rfl dX6_read_118 ?_
                refine lv_iconst (v := 1) hx hb dX6_read_121 (by decide) ?_
                refine lv_iadd hx hb dX6_read_122 ?_
                refine lv_topi (fun x25 e26 => ?_)
                have h := h x25 e26
                refine va_put (D := D) (ci := 6) (v := .int x25) (ty := .int) (C := RX6) (T := TX6) (N := 4) hx hb hts inlX6 tyX6 tyX6_ok nmX6 hown hK hP hD hS 5 rfl rfl 2 (by decide) (hts _ w_9_13) (fun _ h9 => h9) rfl (by decide +kernel) rfl rfl (Nat.le_of_ble_eq_true rfl) dX6_read_123 (fun H locs hP hD hS => ?_)
                have hP : va_P D vwCl (wX cy ad (sI (sA (sA (sI t3 3 x10) 2 (upd (gA t3 2) (gI t3 2).toNatClampNeg v1)) 3 (upd (gA t3 3) (gI t3 2).toNatClampNeg r12)) 2 x25)) H := hP
                have hD : va_D A (wX cy ad (sI (sA (sA (sI t3 3 x10) 2 (upd (gA t3 2) (gI t3 2).toNatClampNeg v1)) 3 (upd (gA t3 3) (gI t3 2).toNatClampNeg r12)) 2 x25)) := hD
                obtain ⟨x27, e28⟩ : ∃ z : Int32, z = v2 + 1 := ⟨_, rfl⟩
                have h := h x27 e28
                refine lv_iinc (v := x27) (lv' := [(3, .int x27), (5, .int r12), (4, .int x5), (0, .ref (ad 5)), (1, .ref (ad 1)), (2, .int v1)]) hx hb dX6_read_126 hl (k := 5) rfl (by rw [e28]; rfl) (by decide) rfl (fun ls hl => ?_)
                refine lv_goto (tgt := 14) hx hb dX6_read_129 (by decide) ?_
                exact ih14 _ _ _ _ _ _ h hP hD hS (lv_sub hl [3, 4, 5, 0] rfl)
          · have h := h.2 c14
            refine lv_iload_n hx hb dX6_read_65 rfl (lv_at hl 4 rfl) ?_
            refine lv_iload hx hb dX6_read_66 (lv_at hl 0 rfl) ?_
            refine lv_iadd hx hb dX6_read_68 ?_
            refine lv_topi (fun x29 e30 => ?_)
            have h := h x29 e30
            refine lv_istore_n (lv' := [(2, .int x29), (5, .int r12), (4, .int x5), (0, .ref (ad 5)), (1, .ref (ad 1)), (3, .int v2)]) hx hb dX6_read_69 rfl hl (by decide) rfl (fun ls hl => ?_)
            refine lv_goto (tgt := 126) hx hb dX6_read_70 (by decide) ?_
            obtain ⟨x31, e32⟩ : ∃ z : Int32, z = v2 + 1 := ⟨_, rfl⟩
            have h := h x31 e32
            refine lv_iinc (v := x31) (lv' := [(3, .int x31), (2, .int x29), (5, .int r12), (4, .int x5), (0, .ref (ad 5)), (1, .ref (ad 1))]) hx hb dX6_read_126 hl (k := 5) rfl (by rw [e32]; rfl) (by decide) rfl (fun ls hl => ?_)
            refine lv_goto (tgt := 14) hx hb dX6_read_129 (by decide) ?_
            exact ih14 _ _ _ _ _ _ h hP hD hS (lv_sub hl [4, 5, 1, 0] rfl)
        · have h := h.2 c9
          refine lv_goto (tgt := 126) hx hb dX6_read_38 (by decide) ?_
          obtain ⟨x33, e34⟩ : ∃ z : Int32, z = v2 + 1 := ⟨_, rfl⟩
          have h := h x33 e34
          refine lv_iinc (v := x33) (lv' := [(3, .int x33), (4, .int x5), (0, .ref (ad 5)), (1, .ref (ad 1)), (2, .int v1)]) hx hb dX6_read_126 hl (k := 4) rfl (by rw [e34]; rfl) (by decide) rfl (fun ls hl => ?_)
          refine lv_goto (tgt := 14) hx hb dX6_read_129 (by decide) ?_
          exact ih14 _ _ _ _ _ _ h hP hD hS (lv_sub hl [2, 3, 4, 0] rfl)
  obtain ⟨n, h⟩ := h
  refine loop14 _ ?_ n _ _ _ _ _ _ h hP hD hS (lv_sub hl [2, 3, 1, 0] rfl)
  intro t35 H locs ls h hP hD hS hl
  exact hret _ _ _ _ _ h hP hD hS dX6_read_132
-- X10_within
def rm_X10_within : Room := { frames := 0, cells := 0, slots := 0, locals := 0 }
abbrev ws_X10_within : List Cond := .code yX10_within cX10_within 3 (some .boolean) :: wsL_law
def wp_X10_within (a1 : Int32) (a2 : Int32) (a3 : Int32) (post : Int32 → Prop) : Prop := ((a1 < a2) → (post 0)) ∧ ((¬ a1 < a2) → (((a3 < a1) → (post 0)) ∧ ((¬ a3 < a1) → (post 1))))
set_option maxHeartbeats 4000000 in
set_option maxRecDepth 100000 in
theorem c_X10_within (l : Launch) (D : va_G) (cy : Nat → ClassId) (tz : Nat → Nat) (w : va_W) (a1 : Int32) (a2 : Int32) (a3 : Int32) (post : Int32 → Prop) (h : wp_X10_within a1 a2 a3 post) : CtI l D cy tz yX10_within ws_X10_within rm_X10_within [.int a1, .int a2, .int a3] w (fun _ : Unit => w) (fun r _ => post r) := by
  refine CtI.of (own := RX10) (nm := "within") (lv := [(0, .int a1), (1, .int a2), (2, .int a3)]) (plainFor_of_name (by decide)) rfl rfl (Nat.le_of_ble_eq_true rfl) rfl ?_
  intro p e s m args below meth c A Q ls B hP hD hS hl hret
  obtain ⟨hx, hb, hml, hown, hts, hK, hZ, hA, hnm⟩ := B
  have SF : CallFix p m c cX10_within 3 s args wsL_law RX10 := ⟨hx, hb, hml, hown, hts⟩
  unfold wp_X10_within at h
  refine lv_iload_n hx hb dX10_within_0 rfl (lv_at hl 0 rfl) ?_
  refine lv_iload_n hx hb dX10_within_1 rfl (lv_at hl 1 rfl) ?_
  refine lv_icmp_lt (tgt := 14) hx hb dX10_within_2 (by decide) (fun c1 => ?_) (fun c1 => ?_)
  · have h := h.1 c1
    refine lv_iconst (v := 0) hx hb dX10_within_14 (by decide) ?_
    exact hret _ () _ _ _ _ rfl h hP hD hS dX10_within_15
  · have h := h.2 c1
    refine lv_iload_n hx hb dX10_within_5 rfl (lv_at hl 0 rfl) ?_
    refine lv_iload_n hx hb dX10_within_6 rfl (lv_at hl 2 rfl) ?_
    refine lv_icmp_gt (tgt := 14) hx hb dX10_within_7 (by decide) (fun c2 => ?_) (fun c2 => ?_)
    · have h := h.1 c2
      refine lv_iconst (v := 0) hx hb dX10_within_14 (by decide) ?_
      exact hret _ () _ _ _ _ rfl h hP hD hS dX10_within_15
    · have h := h.2 c2
      refine lv_iconst (v := 1) hx hb dX10_within_10 (by decide) ?_
      refine lv_goto (tgt := 15) hx hb dX10_within_11 (by decide) ?_
      exact hret _ () _ _ _ _ rfl h hP hD hS dX10_within_15
-- X7_takes
def rm_X7_takes : Room := { frames := 1, cells := 0, slots := 0, locals := 22 }
abbrev ws_X7_takes : List Cond := .code yX7_takes cX7_takes 2 (some .boolean) :: wsL_law
def wp_X7_takes (a1 : Int32) (a2 : Int32) (post : Int32 → Prop) : Prop := wp_X10_within a1 0 4 (fun r1 => ((r1 = 0) → (post 0)) ∧ ((¬ r1 = 0) → (vp_in a1 5 ∧ (vp_in a1 5 ∧ (wp_X10_within a2 (zL a1.toNatClampNeg) (zM a1.toNatClampNeg) (fun r4 => ((r4 = 0) → (post 0)) ∧ ((¬ r4 = 0) → (post 1))))))))
set_option maxHeartbeats 4000000 in
set_option maxRecDepth 100000 in
theorem c_X7_takes (l : Launch) (D : va_G) (cy : Nat → ClassId) (tz : Nat → Nat) (w : va_W) (a1 : Int32) (a2 : Int32) (post : Int32 → Prop) (h : wp_X7_takes a1 a2 post) : CtI l D cy tz yX7_takes ws_X7_takes rm_X7_takes [.int a1, .int a2] w (fun _ : Unit => w) (fun r _ => post r) := by
  refine CtI.of (own := RX7) (nm := "takes") (lv := [(0, .int a1), (1, .int a2)]) (plainFor_of_name (by decide)) rfl rfl (Nat.le_of_ble_eq_true rfl) rfl ?_
  intro p e s m args below meth c A Q ls B hP hD hS hl hret
  obtain ⟨hx, hb, hml, hown, hts, hK, hZ, hA, hnm⟩ := B
  have SF : CallFix p m c cX7_takes 2 s args wsL_law RX7 := ⟨hx, hb, hml, hown, hts⟩
  unfold wp_X7_takes at h
  refine lv_iload_n hx hb dX7_takes_0 rfl (lv_at hl 0 rfl) ?_
  refine lv_iconst (v := 0) hx hb dX7_takes_1 (by decide) ?_
  refine lv_iconst (v := 4) hx hb dX7_takes_2 (by decide) ?_
  refine callSNIr (rest := []) SF (c_X10_within l D cy tz _ a1 0 4 _ h) ⟨va_cnB 3 hts (gdC w_6_12) rfl rfl rfl hZ.2.2.2.2.2.2.2.2.2.2.1 (hts _ w_1_2) (by decide +kernel) ⟨Nat.le_of_ble_eq_true rfl, Nat.le_of_ble_eq_true rfl⟩, hts _ w_6_11, trivial⟩ rfl rfl hK hZ hA hP hD hS rfl hl.1 rfl (Nat.le_of_ble_eq_true rfl) dX7_takes_3 ⟨Nat.zero_le _, Nat.zero_le _⟩ (fun r1 H locs h hP hD hS => ?_)
  refine lv_if_eq (tgt := 30) hx hb dX7_takes_6 (by decide) (fun c3 => ?_) (fun c3 => ?_)
  · have h := h.1 c3
    refine lv_iconst (v := 0) hx hb dX7_takes_30 (by decide) ?_
    exact hret _ () _ _ _ _ rfl h hP hD hS dX7_takes_31
  · have h := h.2 c3
    refine lv_iload_n hx hb dX7_takes_9 rfl (lv_at hl 1 rfl) ?_
    refine va_gets (v := .ref (tz 1)) hx hb hZ.1.2.1.1 hS hown (hts _ w_6_9) (fun _ h9 => h9) dX7_takes_10 ?_
    refine lv_iload_n hx hb dX7_takes_13 rfl (lv_at hl 0 rfl) ?_
    refine va_ti (v := .int (zL a1.toNatClampNeg)) hx hb hZ.1.2.1.2 hS h.1 rfl dX7_takes_14 ?_
    have h := h.2
    refine va_gets (v := .ref (tz 2)) hx hb hZ.1.2.2.1.1 hS hown (hts _ w_6_10) (fun _ h9 => h9) dX7_takes_15 ?_
    refine lv_iload_n hx hb dX7_takes_18 rfl (lv_at hl 0 rfl) ?_
    refine va_ti (v := .int (zM a1.toNatClampNeg)) hx hb hZ.1.2.2.1.2 hS h.1 rfl dX7_takes_19 ?_
    have h := h.2
    refine callSNIr (rest := []) SF (c_X10_within l D cy tz _ a2 (zL a1.toNatClampNeg) (zM a1.toNatClampNeg) _ h) ⟨va_cnB 3 hts (gdC w_6_12) rfl rfl rfl hZ.2.2.2.2.2.2.2.2.2.2.1 (hts _ w_1_2) (by decide +kernel) ⟨Nat.le_of_ble_eq_true rfl, Nat.le_of_ble_eq_true rfl⟩, hts _ w_6_11, trivial⟩ rfl rfl hK hZ hA hP hD hS rfl hl.1 rfl (Nat.le_of_ble_eq_true rfl) dX7_takes_20 ⟨Nat.zero_le _, Nat.zero_le _⟩ (fun r4 H locs h hP hD hS => ?_)
    refine lv_if_eq (tgt := 30) hx hb dX7_takes_23 (by decide) (fun c6 => ?_) (fun c6 => ?_)
    · have h := h.1 c6
      refine lv_iconst (v := 0) hx hb dX7_takes_30 (by decide) ?_
      exact hret _ () _ _ _ _ rfl h hP hD hS dX7_takes_31
    · have h := h.2 c6
      refine lv_iconst (v := 1) hx hb dX7_takes_26 (by decide) ?_
      refine lv_goto (tgt := 31) hx hb dX7_takes_27 (by decide) ?_
      exact hret _ () _ _ _ _ rfl h hP hD hS dX7_takes_31
-- X7_pace
def rm_X7_pace : Room := { frames := 0, cells := 0, slots := 0, locals := 0 }
abbrev ws_X7_pace : List Cond := .code yX7_pace cX7_pace 1 (some .int) :: wsL_law
def wp_X7_pace (st : St) (post : Int32 → Prop) : Prop := post ((gA st 1 (0 : Int32).toNatClampNeg) - 100)
set_option maxHeartbeats 4000000 in
set_option maxRecDepth 100000 in
theorem c_X7_pace (l : Launch) (D : va_G) (cy : Nat → ClassId) (tz : Nat → Nat) (ad : Nat → Nat) (st : St) (post : Int32 → Prop) (h : wp_X7_pace st post) : CtI l D cy tz yX7_pace ws_X7_pace rm_X7_pace [.ref (ad 3)] (wX cy ad st) (fun _ : Unit => wX cy ad st) (fun r _ => post r) := by
  refine CtI.of (own := RX7) (nm := "pace") (lv := [(0, .ref (ad 3))]) (plainFor_of_name (by decide)) rfl rfl (Nat.le_of_ble_eq_true rfl) rfl ?_
  intro p e s m args below meth c A Q ls B hP hD hS hl hret
  obtain ⟨hx, hb, hml, hown, hts, hK, hZ, hA, hnm⟩ := B
  have SF : CallFix p m c cX7_pace 1 s args wsL_law RX7 := ⟨hx, hb, hml, hown, hts⟩
  unfold wp_X7_pace at h
  refine lv_aload_n hx hb dX7_pace_0 rfl (lv_at hl 0 rfl) ?_
  refine va_get (D := D) (ci := 7) (v := .ref (ad 4)) (C := RX7) (T := TX7) (N := 6) hx hb hts inlX7 hown hK hP 3 rfl rfl 0 (by decide) (hts _ w_3_8) (fun _ h9 => h9) rfl dX7_pace_1 ?_
  refine lv_iconst (v := 0) hx hb dX7_pace_4 (by decide) ?_
  refine va_iald (f := gA st 1) (n := 5) hx hb hK hP 4 0 rfl rfl (vin (by decide +kernel)) dX7_pace_5 ?_
  refine lv_bipush (v := 100) hx hb dX7_pace_6 (by decide) ?_
  refine lv_isub hx hb dX7_pace_8 ?_
  exact hret _ () _ _ _ _ rfl h hP hD hS dX7_pace_9
-- X7_reach
def rm_X7_reach : Room := { frames := 0, cells := 0, slots := 0, locals := 0 }
abbrev ws_X7_reach : List Cond := .code yX7_reach cX7_reach 1 (some .int) :: wsL_law
def wp_X7_reach (st : St) (post : Int32 → Prop) : Prop := post (gA st 1 (2 : Int32).toNatClampNeg)
set_option maxHeartbeats 4000000 in
set_option maxRecDepth 100000 in
theorem c_X7_reach (l : Launch) (D : va_G) (cy : Nat → ClassId) (tz : Nat → Nat) (ad : Nat → Nat) (st : St) (post : Int32 → Prop) (h : wp_X7_reach st post) : CtI l D cy tz yX7_reach ws_X7_reach rm_X7_reach [.ref (ad 3)] (wX cy ad st) (fun _ : Unit => wX cy ad st) (fun r _ => post r) := by
  refine CtI.of (own := RX7) (nm := "reach") (lv := [(0, .ref (ad 3))]) (plainFor_of_name (by decide)) rfl rfl (Nat.le_of_ble_eq_true rfl) rfl ?_
  intro p e s m args below meth c A Q ls B hP hD hS hl hret
  obtain ⟨hx, hb, hml, hown, hts, hK, hZ, hA, hnm⟩ := B
  have SF : CallFix p m c cX7_reach 1 s args wsL_law RX7 := ⟨hx, hb, hml, hown, hts⟩
  unfold wp_X7_reach at h
  refine lv_aload_n hx hb dX7_reach_0 rfl (lv_at hl 0 rfl) ?_
  refine va_get (D := D) (ci := 7) (v := .ref (ad 4)) (C := RX7) (T := TX7) (N := 6) hx hb hts inlX7 hown hK hP 3 rfl rfl 0 (by decide) (hts _ w_3_8) (fun _ h9 => h9) rfl dX7_reach_1 ?_
  refine lv_iconst (v := 2) hx hb dX7_reach_4 (by decide) ?_
  refine va_iald (f := gA st 1) (n := 5) hx hb hK hP 4 0 rfl rfl (vin (by decide +kernel)) dX7_reach_5 ?_
  exact hret _ () _ _ _ _ rfl h hP hD hS dX7_reach_6
-- X7_rub
def rm_X7_rub : Room := { frames := 0, cells := 0, slots := 0, locals := 0 }
abbrev ws_X7_rub : List Cond := .code yX7_rub cX7_rub 1 (some .int) :: wsL_law
def wp_X7_rub (st : St) (post : Int32 → Prop) : Prop := post (gA st 1 (3 : Int32).toNatClampNeg)
set_option maxHeartbeats 4000000 in
set_option maxRecDepth 100000 in
theorem c_X7_rub (l : Launch) (D : va_G) (cy : Nat → ClassId) (tz : Nat → Nat) (ad : Nat → Nat) (st : St) (post : Int32 → Prop) (h : wp_X7_rub st post) : CtI l D cy tz yX7_rub ws_X7_rub rm_X7_rub [.ref (ad 3)] (wX cy ad st) (fun _ : Unit => wX cy ad st) (fun r _ => post r) := by
  refine CtI.of (own := RX7) (nm := "rub") (lv := [(0, .ref (ad 3))]) (plainFor_of_name (by decide)) rfl rfl (Nat.le_of_ble_eq_true rfl) rfl ?_
  intro p e s m args below meth c A Q ls B hP hD hS hl hret
  obtain ⟨hx, hb, hml, hown, hts, hK, hZ, hA, hnm⟩ := B
  have SF : CallFix p m c cX7_rub 1 s args wsL_law RX7 := ⟨hx, hb, hml, hown, hts⟩
  unfold wp_X7_rub at h
  refine lv_aload_n hx hb dX7_rub_0 rfl (lv_at hl 0 rfl) ?_
  refine va_get (D := D) (ci := 7) (v := .ref (ad 4)) (C := RX7) (T := TX7) (N := 6) hx hb hts inlX7 hown hK hP 3 rfl rfl 0 (by decide) (hts _ w_3_8) (fun _ h9 => h9) rfl dX7_rub_1 ?_
  refine lv_iconst (v := 3) hx hb dX7_rub_4 (by decide) ?_
  refine va_iald (f := gA st 1) (n := 5) hx hb hK hP 4 0 rfl rfl (vin (by decide +kernel)) dX7_rub_5 ?_
  exact hret _ () _ _ _ _ rfl h hP hD hS dX7_rub_6
-- X7_rim
def rm_X7_rim : Room := { frames := 0, cells := 0, slots := 0, locals := 0 }
abbrev ws_X7_rim : List Cond := .code yX7_rim cX7_rim 1 (some .int) :: wsL_law
def wp_X7_rim (st : St) (post : Int32 → Prop) : Prop := post (gA st 1 (4 : Int32).toNatClampNeg)
set_option maxHeartbeats 4000000 in
set_option maxRecDepth 100000 in
theorem c_X7_rim (l : Launch) (D : va_G) (cy : Nat → ClassId) (tz : Nat → Nat) (ad : Nat → Nat) (st : St) (post : Int32 → Prop) (h : wp_X7_rim st post) : CtI l D cy tz yX7_rim ws_X7_rim rm_X7_rim [.ref (ad 3)] (wX cy ad st) (fun _ : Unit => wX cy ad st) (fun r _ => post r) := by
  refine CtI.of (own := RX7) (nm := "rim") (lv := [(0, .ref (ad 3))]) (plainFor_of_name (by decide)) rfl rfl (Nat.le_of_ble_eq_true rfl) rfl ?_
  intro p e s m args below meth c A Q ls B hP hD hS hl hret
  obtain ⟨hx, hb, hml, hown, hts, hK, hZ, hA, hnm⟩ := B
  have SF : CallFix p m c cX7_rim 1 s args wsL_law RX7 := ⟨hx, hb, hml, hown, hts⟩
  unfold wp_X7_rim at h
  refine lv_aload_n hx hb dX7_rim_0 rfl (lv_at hl 0 rfl) ?_
  refine va_get (D := D) (ci := 7) (v := .ref (ad 4)) (C := RX7) (T := TX7) (N := 6) hx hb hts inlX7 hown hK hP 3 rfl rfl 0 (by decide) (hts _ w_3_8) (fun _ h9 => h9) rfl dX7_rim_1 ?_
  refine lv_iconst (v := 4) hx hb dX7_rim_4 (by decide) ?_
  refine va_iald (f := gA st 1) (n := 5) hx hb hK hP 4 0 rfl rfl (vin (by decide +kernel)) dX7_rim_5 ?_
  exact hret _ () _ _ _ _ rfl h hP hD hS dX7_rim_6
-- X7_hasOne
def rm_X7_hasOne : Room := { frames := 1, cells := 0, slots := 0, locals := 22 }
abbrev ws_X7_hasOne : List Cond := .code yX7_hasOne cX7_hasOne 2 (some .boolean) :: wsL_law
def wp_X7_hasOne (st : St) (a1 : Int32) (post : Int32 → Prop) : Prop := wp_X10_within a1 0 (gI st 1 - 1) (fun r1 => r1 &&& 1 = r1 ∧ post r1)
set_option maxHeartbeats 4000000 in
set_option maxRecDepth 100000 in
theorem c_X7_hasOne (l : Launch) (D : va_G) (cy : Nat → ClassId) (tz : Nat → Nat) (ad : Nat → Nat) (st : St) (a1 : Int32) (post : Int32 → Prop) (h : wp_X7_hasOne st a1 post) : CtI l D cy tz yX7_hasOne ws_X7_hasOne rm_X7_hasOne [.ref (ad 3), .int a1] (wX cy ad st) (fun _ : Unit => wX cy ad st) (fun r _ => post r) := by
  refine CtI.of (own := RX7) (nm := "hasOne") (lv := [(0, .ref (ad 3)), (1, .int a1)]) (plainFor_of_name (by decide)) rfl rfl (Nat.le_of_ble_eq_true rfl) rfl ?_
  intro p e s m args below meth c A Q ls B hP hD hS hl hret
  obtain ⟨hx, hb, hml, hown, hts, hK, hZ, hA, hnm⟩ := B
  have SF : CallFix p m c cX7_hasOne 2 s args wsL_law RX7 := ⟨hx, hb, hml, hown, hts⟩
  unfold wp_X7_hasOne at h
  refine lv_iload_n hx hb dX7_hasOne_0 rfl (lv_at hl 1 rfl) ?_
  refine lv_iconst (v := 0) hx hb dX7_hasOne_1 (by decide) ?_
  refine lv_aload_n hx hb dX7_hasOne_2 rfl (lv_at hl 0 rfl) ?_
  refine va_get (D := D) (ci := 7) (v := .int (gI st 1)) (C := RX7) (T := TX7) (N := 6) hx hb hts inlX7 hown hK hP 3 rfl rfl 5 (by decide) (hts _ w_13_4) (fun _ h9 => h9) rfl dX7_hasOne_3 ?_
  refine lv_iconst (v := 1) hx hb dX7_hasOne_6 (by decide) ?_
  refine lv_isub hx hb dX7_hasOne_7 ?_
  refine callSNIr (rest := []) SF (c_X10_within l D cy tz _ a1 0 (gI st 1 - 1) _ h) ⟨va_cnB 3 hts (gdC w_6_12) rfl rfl rfl hZ.2.2.2.2.2.2.2.2.2.2.1 (hts _ w_1_2) (by decide +kernel) ⟨Nat.le_of_ble_eq_true rfl, Nat.le_of_ble_eq_true rfl⟩, hts _ w_6_11, trivial⟩ rfl rfl hK hZ hA hP hD hS rfl hl.1 rfl (Nat.le_of_ble_eq_true rfl) dX7_hasOne_8 ⟨Nat.zero_le _, Nat.zero_le _⟩ (fun r1 H locs h hP hD hS => ?_)
  exact hret _ () _ _ _ _ (narrow_b h.1) h.2 hP hD hS dX7_hasOne_11
-- X7_seat
def rm_X7_seat : Room := { frames := 3, cells := 0, slots := 0, locals := 66 }
abbrev ws_X7_seat : List Cond := .code yX7_seat cX7_seat 4 (some .int) :: wsL_law
theorem cw_RX7_57 {R : Room} {s : State} {args : Array Value} (hts : ∀ w ∈ wsL_law, w.before args s = true) (hR : rm_X9_turnX.frames + 1 ≤ R.frames ∧ 8 + (5 + 11) + rm_X9_turnX.locals ≤ R.locals) : CallB R s args RX7 57 yX9_turnX cX9_turnX 5 (some .long) ws_X9_turnX rm_X9_turnX rm_X9_turnX.cells rm_X9_turnX.slots 3 ∧ (Cond.static yX9_turnX).before args s = true := va_cwS 3 hts (gdS w_13_5 w_13_6 w_13_7 w_13_8) rfl rfl rfl (by decide +kernel) hR
theorem cw_RX7_63 {R : Room} {s : State} {args : Array Value} (hts : ∀ w ∈ wsL_law, w.before args s = true) (hR : rm_X9_turnY.frames + 1 ≤ R.frames ∧ 8 + (5 + 11) + rm_X9_turnY.locals ≤ R.locals) : CallB R s args RX7 63 yX9_turnY cX9_turnY 5 (some .long) ws_X9_turnY rm_X9_turnY rm_X9_turnY.cells rm_X9_turnY.slots 3 ∧ (Cond.static yX9_turnY).before args s = true := va_cwS 3 hts (gdS w_13_18 w_13_19 w_13_7 w_13_20) rfl rfl rfl (by decide +kernel) hR
def wp_X7_seat (st : St) (a1 : Int32) (a2 : Int32) (post : Int32 → St → Prop) : Prop := ∀ x1 : Int32, x1 = gI st 1 → (((8 ≤ x1) → (post x1 st)) ∧ ((¬ 8 ≤ x1) → (wp_X9_turnX a1.toInt64 0 a2 (fun r4 => ∀ x6 : Int32, x6 = r4.toInt32 → (vp_in x1 8 ∧ (wp_X9_turnY a1.toInt64 0 a2 (fun r8 => ∀ x10 : Int32, x10 = r8.toInt32 → (vp_in x1 8 ∧ (∀ x12 : Int32, x12 = (gI st 1 + 1) → (post x1 (sI (sA (sA st 6 (upd (gA st 6) x1.toNatClampNeg x6)) 7 (upd (gA st 7) x1.toNatClampNeg x10)) 1 x12)))))))))))
set_option maxHeartbeats 4000000 in
set_option maxRecDepth 100000 in
theorem c_X7_seat (l : Launch) (D : va_G) (cy : Nat → ClassId) (tz : Nat → Nat) (ad : Nat → Nat) (st : St) (a1 : Int32) (a2 : Int32) (post : Int32 → St → Prop) (h : wp_X7_seat st a1 a2 post) : CtI l D cy tz yX7_seat ws_X7_seat rm_X7_seat [.ref (ad 3), .int a1, .int a2] (wX cy ad st) (wX cy ad) post := by
  refine CtI.of (own := RX7) (nm := "seat") (lv := [(0, .ref (ad 3)), (1, .int a1), (2, .int a2)]) (plainFor_of_name (by decide)) rfl rfl (Nat.le_of_ble_eq_true rfl) rfl ?_
  intro p e s m args below meth c A Q ls B hP hD hS hl hret
  obtain ⟨hx, hb, hml, hown, hts, hK, hZ, hA, hnm⟩ := B
  have SF : CallFix p m c cX7_seat 4 s args wsL_law RX7 := ⟨hx, hb, hml, hown, hts⟩
  unfold wp_X7_seat at h
  refine lv_aload_n hx hb dX7_seat_0 rfl (lv_at hl 0 rfl) ?_
  refine va_get (D := D) (ci := 7) (v := .int (gI st 1)) (C := RX7) (T := TX7) (N := 6) hx hb hts inlX7 hown hK hP 3 rfl rfl 5 (by decide) (hts _ w_13_4) (fun _ h9 => h9) rfl dX7_seat_1 ?_
  refine lv_topi (fun x1 e2 => ?_)
  have h := h x1 e2
  refine lv_istore_n (lv' := [(3, .int x1), (0, .ref (ad 3)), (1, .int a1), (2, .int a2)]) hx hb dX7_seat_4 rfl hl (by decide) rfl (fun ls hl => ?_)
  refine lv_iload_n hx hb dX7_seat_5 rfl (lv_at hl 0 rfl) ?_
  refine lv_bipush (v := 8) hx hb dX7_seat_6 (by decide) ?_
  refine lv_icmp_ge (tgt := 49) hx hb dX7_seat_8 (by decide) (fun c3 => ?_) (fun c3 => ?_)
  · have h := h.1 c3
    refine lv_iload_n hx hb dX7_seat_49 rfl (lv_at hl 0 rfl) ?_
    exact hret _ _ _ _ _ _ rfl h hP hD hS dX7_seat_50
  · have h := h.2 c3
    refine lv_aload_n hx hb dX7_seat_11 rfl (lv_at hl 1 rfl) ?_
    refine va_get (D := D) (ci := 7) (v := .ref (ad 11)) (C := RX7) (T := TX7) (N := 6) hx hb hts inlX7 hown hK hP 3 rfl rfl 3 (by decide) (hts _ w_3_17) (fun _ h9 => h9) rfl dX7_seat_12 ?_
    refine lv_iload_n hx hb dX7_seat_15 rfl (lv_at hl 0 rfl) ?_
    refine lv_iload_n hx hb dX7_seat_16 rfl (lv_at hl 2 rfl) ?_
    refine lv_i2l (v := a1.toInt64) hx hb dX7_seat_17 rfl ?_
    refine lv_lconst (v := 0) hx hb dX7_seat_18 (by decide) ?_
    refine lv_iload_n hx hb dX7_seat_19 rfl (lv_at hl 3 rfl) ?_
    refine callSLr (rest := [.int x1, .ref (ad 11)]) SF (c_X9_turnX l D cy tz _ a1.toInt64 0 a2 _ h) (cw_RX7_57 hts ⟨Nat.le_of_ble_eq_true rfl, Nat.le_of_ble_eq_true rfl⟩) rfl rfl hK hZ hA hP hD hS rfl hl.1 rfl (Nat.le_of_ble_eq_true rfl) dX7_seat_20 ⟨Nat.zero_le _, Nat.zero_le _⟩ (fun r4 H locs h hP hD hS => ?_)
    refine lv_l2i (v := r4.toInt32) hx hb dX7_seat_23 rfl ?_
    refine lv_topi (fun x6 e7 => ?_)
    have h := h x6 e7
    refine va_iast (f := gA st 6) (n := 8) hx hb hK hP hD hS 11 0 rfl rfl h.1 dX7_seat_24 (fun H locs hP hD hS => ?_)
    have h := h.2
    have hP : va_P D vwCl (wX cy ad (sA st 6 (upd (gA st 6) x1.toNatClampNeg x6))) H := hP
    have hD : va_D A (wX cy ad (sA st 6 (upd (gA st 6) x1.toNatClampNeg x6))) := hD
    refine lv_aload_n hx hb dX7_seat_25 rfl (lv_at hl 1 rfl) ?_
    refine va_get (D := D) (ci := 7) (v := .ref (ad 12)) (C := RX7) (T := TX7) (N := 6) hx hb hts inlX7 hown hK hP 3 rfl rfl 4 (by decide) (hts _ w_3_18) (fun _ h9 => h9) rfl dX7_seat_26 ?_
    refine lv_iload_n hx hb dX7_seat_29 rfl (lv_at hl 0 rfl) ?_
    refine lv_iload_n hx hb dX7_seat_30 rfl (lv_at hl 2 rfl) ?_
    refine lv_i2l (v := a1.toInt64) hx hb dX7_seat_31 rfl ?_
    refine lv_lconst (v := 0) hx hb dX7_seat_32 (by decide) ?_
    refine lv_iload_n hx hb dX7_seat_33 rfl (lv_at hl 3 rfl) ?_
    refine callSLr (rest := [.int x1, .ref (ad 12)]) SF (c_X9_turnY l D cy tz _ a1.toInt64 0 a2 _ h) (cw_RX7_63 hts ⟨Nat.le_of_ble_eq_true rfl, Nat.le_of_ble_eq_true rfl⟩) rfl rfl hK hZ hA hP hD hS rfl hl.1 rfl (Nat.le_of_ble_eq_true rfl) dX7_seat_34 ⟨Nat.zero_le _, Nat.zero_le _⟩ (fun r8 H locs h hP hD hS => ?_)
    refine lv_l2i (v := r8.toInt32) hx hb dX7_seat_37 rfl ?_
    refine lv_topi (fun x10 e11 => ?_)
    have h := h x10 e11
    refine va_iast (f := gA st 7) (n := 8) hx hb hK hP hD hS 12 0 rfl rfl h.1 dX7_seat_38 (fun H locs hP hD hS => ?_)
    have h := h.2
    have hP : va_P D vwCl (wX cy ad (sA (sA st 6 (upd (gA st 6) x1.toNatClampNeg x6)) 7 (upd (gA st 7) x1.toNatClampNeg x10))) H := hP
    have hD : va_D A (wX cy ad (sA (sA st 6 (upd (gA st 6) x1.toNatClampNeg x6)) 7 (upd (gA st 7) x1.toNatClampNeg x10))) := hD
    refine lv_aload_n hx hb dX7_seat_39 rfl (lv_at hl 1 rfl) ?_
    refine lv_dup hx hb dX7_seat_40 rfl ?_
    refine va_get (D := D) (ci := 7) (v := .int (gI st 1)) (C := RX7) (T := TX7) (N := 6) hx hb hts inlX7 hown hK hP 3 rfl rfl 5 (by decide) (hts _ w_13_4) (fun _ h9 => h9) rfl dX7_seat_41 ?_
    refine lv_iconst (v := 1) hx hb dX7_seat_44 (by decide) ?_
    refine lv_iadd hx hb dX7_seat_45 ?_
    refine lv_topi (fun x12 e13 => ?_)
    have h := h x12 e13
    refine va_put (D := D) (ci := 7) (v := .int x12) (ty := .int) (C := RX7) (T := TX7) (N := 6) hx hb hts inlX7 tyX7 tyX7_ok nmX7 hown hK hP hD hS 3 rfl rfl 5 (by decide) (hts _ w_13_4) (fun _ h9 => h9) rfl (by decide +kernel) rfl rfl (Nat.le_of_ble_eq_true rfl) dX7_seat_46 (fun H locs hP hD hS => ?_)
    have hP : va_P D vwCl (wX cy ad (sI (sA (sA st 6 (upd (gA st 6) x1.toNatClampNeg x6)) 7 (upd (gA st 7) x1.toNatClampNeg x10)) 1 x12)) H := hP
    have hD : va_D A (wX cy ad (sI (sA (sA st 6 (upd (gA st 6) x1.toNatClampNeg x6)) 7 (upd (gA st 7) x1.toNatClampNeg x10)) 1 x12)) := hD
    refine lv_iload_n hx hb dX7_seat_49 rfl (lv_at hl 0 rfl) ?_
    exact hret _ _ _ _ _ _ rfl h hP hD hS dX7_seat_50
-- X8_followSeat
def rm_X8_followSeat : Room := { frames := 3, cells := 0, slots := 0, locals := 66 }
abbrev ws_X8_followSeat : List Cond := .code yX8_followSeat cX8_followSeat 6 none :: wsL_law
theorem cw_RX8_18 {R : Room} {s : State} {args : Array Value} (hts : ∀ w ∈ wsL_law, w.before args s = true) (hR : rm_X5_wayBehind.frames + 1 ≤ R.frames ∧ 8 + (2 + 11) + rm_X5_wayBehind.locals ≤ R.locals) : CallW R s args RX8 RX5 18 yX5_wayBehind cX5_wayBehind 2 (some .int) ws_X5_wayBehind rm_X5_wayBehind rm_X5_wayBehind.cells rm_X5_wayBehind.slots 1 := cwV 1 hts (gdV w_19_7 w_15_3 w_15_4 w_1_23 w_15_5) rfl rfl rfl (by decide +kernel) hR
theorem cw_RX8_24 {R : Room} {s : State} {args : Array Value} (hts : ∀ w ∈ wsL_law, w.before args s = true) (hR : rm_X9_turnX.frames + 1 ≤ R.frames ∧ 8 + (5 + 11) + rm_X9_turnX.locals ≤ R.locals) : CallB R s args RX8 24 yX9_turnX cX9_turnX 5 (some .long) ws_X9_turnX rm_X9_turnX rm_X9_turnX.cells rm_X9_turnX.slots 3 ∧ (Cond.static yX9_turnX).before args s = true := va_cwS 3 hts (gdS w_19_8 w_13_6 w_13_7 w_13_8) rfl rfl rfl (by decide +kernel) hR
theorem cw_RX8_30 {R : Room} {s : State} {args : Array Value} (hts : ∀ w ∈ wsL_law, w.before args s = true) (hR : rm_X9_turnY.frames + 1 ≤ R.frames ∧ 8 + (5 + 11) + rm_X9_turnY.locals ≤ R.locals) : CallB R s args RX8 30 yX9_turnY cX9_turnY 5 (some .long) ws_X9_turnY rm_X9_turnY rm_X9_turnY.cells rm_X9_turnY.slots 3 ∧ (Cond.static yX9_turnY).before args s = true := va_cwS 3 hts (gdS w_19_9 w_13_19 w_13_7 w_13_20) rfl rfl rfl (by decide +kernel) hR
def wp_X8_followSeat_L3 (post : St → Prop) (K : St → Prop) (a1 : Int32) (a2 : Int32) : Nat → St → Int32 → Prop
  | 0, _, _ => False
  | n3 + 1, t2, v1 => ((60 < v1) → (K t2)) ∧ ((¬ 60 < v1) → (wp_X5_wayBehind t2 v1 (fun r4 => wp_X9_turnX a1.toInt64 a2.toInt64 r4 (fun r6 => vp_in v1 61 ∧ (wp_X9_turnY a1.toInt64 a2.toInt64 r4 (fun r8 => vp_in v1 61 ∧ (∀ x10 : Int32, x10 = v1 + 1 → (wp_X8_followSeat_L3 post K a1 a2 n3 (sB (sB t2 0 (vp_updL (gB t2 0) v1.toNatClampNeg r6)) 1 (vp_updL (gB t2 1) v1.toNatClampNeg r8)) x10))))))))
def wp_X8_followSeat (st : St) (a1 : Int32) (a2 : Int32) (post : St → Prop) : Prop := ∃ m3 : Nat, wp_X8_followSeat_L3 post (fun t12 => post t12) a1 a2 m3 st 0
set_option maxHeartbeats 4000000 in
set_option maxRecDepth 100000 in
theorem c_X8_followSeat (l : Launch) (D : va_G) (cy : Nat → ClassId) (tz : Nat → Nat) (ad : Nat → Nat) (st : St) (a1 : Int32) (a2 : Int32) (post : St → Prop) (h : wp_X8_followSeat st a1 a2 post) : CtV l D cy tz yX8_followSeat ws_X8_followSeat rm_X8_followSeat [.ref (ad 17), .int a1, .int a2, .ref (ad 13)] (wX cy ad st) (wX cy ad) post := by
  refine CtV.of (own := RX8) (nm := "followSeat") (lv := [(0, .ref (ad 17)), (1, .int a1), (2, .int a2), (3, .ref (ad 13))]) (plainFor_of_name (by decide)) rfl rfl (Nat.le_of_ble_eq_true rfl) rfl ?_
  intro p e s m args below meth c A Q ls B hP hD hS hl hret
  obtain ⟨hx, hb, hml, hown, hts, hK, hZ, hA, hnm⟩ := B
  have SF : CallFix p m c cX8_followSeat 6 s args wsL_law RX8 := ⟨hx, hb, hml, hown, hts⟩
  unfold wp_X8_followSeat at h
  refine lv_iconst (v := 0) hx hb dX8_followSeat_0 (by decide) ?_
  refine lv_istore (lv' := [(4, .int 0), (0, .ref (ad 17)), (1, .int a1), (2, .int a2), (3, .ref (ad 13))]) hx hb dX8_followSeat_1 hl (by decide) rfl (fun ls hl => ?_)
  have loop3 : ∀ (K : St → Prop), (∀ (t12 : St) (H : Heap) (locs : List Loc) (ls : Array Slot), K t12 → va_P D vwCl (wX cy ad t12) H → va_D A (wX cy ad t12) → va_S A s.heap H locs → lv_has ls 6 [] → W p l e rm_X8_followSeat s m args below meth c H locs 0 0 Q (F0 m 56 ls [])) → ∀ (n : Nat) (t2 : St) (v1 : Int32) (H : Heap) (locs : List Loc) (ls : Array Slot), wp_X8_followSeat_L3 post K a1 a2 n t2 v1 → va_P D vwCl (wX cy ad t2) H → va_D A (wX cy ad t2) → va_S A s.heap H locs → lv_has ls 6 [(0, .ref (ad 17)), (1, .int a1), (2, .int a2), (3, .ref (ad 13)), (4, .int v1)] → W p l e rm_X8_followSeat s m args below meth c H locs 0 0 Q (F0 m 3 ls []) := by
    intro K hE3 n
    induction n with
    | zero => intro t2 v1 H locs ls h; exact h.elim
    | succ n ih3 =>
      intro t2 v1 H locs ls h hP hD hS hl
      rw [wp_X8_followSeat_L3] at h
      refine lv_iload hx hb dX8_followSeat_3 (lv_at hl 4 rfl) ?_
      refine lv_bipush (v := 60) hx hb dX8_followSeat_5 (by decide) ?_
      refine lv_icmp_gt (tgt := 56) hx hb dX8_followSeat_7 (by decide) (fun c3 => ?_) (fun c3 => ?_)
      · have h := h.1 c3
        exact hE3 _ _ _ _ h hP hD hS (lv_sub hl [] rfl)
      · have h := h.2 c3
        refine lv_aload_n hx hb dX8_followSeat_10 rfl (lv_at hl 3 rfl) ?_
        refine lv_iload hx hb dX8_followSeat_11 (lv_at hl 4 rfl) ?_
        refine callVIr (rest := []) SF (c_X5_wayBehind l D cy tz ad t2 v1 _ h) (cw_RX8_18 hts ⟨Nat.le_of_ble_eq_true rfl, Nat.le_of_ble_eq_true rfl⟩) rfl rfl (va_recv hK hP (ci := 5) (q0 := 13) rfl rfl) hK hZ hA hP hD hS rfl hl.1 rfl (Nat.le_of_ble_eq_true rfl) dX8_followSeat_13 ⟨Nat.zero_le _, Nat.zero_le _⟩ (fun r4 H locs h hP hD hS => ?_)
        refine lv_istore (lv' := [(5, .int r4), (0, .ref (ad 17)), (1, .int a1), (2, .int a2), (3, .ref (ad 13)), (4, .int v1)]) hx hb dX8_followSeat_16 hl (by decide) rfl (fun ls hl => ?_)
        refine lv_aload_n hx hb dX8_followSeat_18 rfl (lv_at hl 1 rfl) ?_
        refine va_get (D := D) (ci := 8) (v := .ref (ad 18)) (C := RX8) (T := TX8) (N := 2) hx hb hts inlX8 hown hK hP 17 rfl rfl 0 (by decide) (hts _ w_4_17) (fun _ h9 => h9) rfl dX8_followSeat_19 ?_
        refine lv_iload hx hb dX8_followSeat_22 (lv_at hl 5 rfl) ?_
        refine lv_iload_n hx hb dX8_followSeat_24 rfl (lv_at hl 2 rfl) ?_
        refine lv_i2l (v := a1.toInt64) hx hb dX8_followSeat_25 rfl ?_
        refine lv_iload_n hx hb dX8_followSeat_26 rfl (lv_at hl 3 rfl) ?_
        refine lv_i2l (v := a2.toInt64) hx hb dX8_followSeat_27 rfl ?_
        refine lv_iload hx hb dX8_followSeat_28 (lv_at hl 0 rfl) ?_
        refine callSLr (rest := [.int v1, .ref (ad 18)]) SF (c_X9_turnX l D cy tz _ a1.toInt64 a2.toInt64 r4 _ h) (cw_RX8_24 hts ⟨Nat.le_of_ble_eq_true rfl, Nat.le_of_ble_eq_true rfl⟩) rfl rfl hK hZ hA hP hD hS rfl hl.1 rfl (Nat.le_of_ble_eq_true rfl) dX8_followSeat_30 ⟨Nat.zero_le _, Nat.zero_le _⟩ (fun r6 H locs h hP hD hS => ?_)
        refine va_last (f := gB t2 0) (n := 61) hx hb hK hP hD hS 18 1 rfl rfl h.1 dX8_followSeat_33 (fun H locs hP hD hS => ?_)
        have h := h.2
        have hP : va_P D vwCl (wX cy ad (sB t2 0 (vp_updL (gB t2 0) v1.toNatClampNeg r6))) H := hP
        have hD : va_D A (wX cy ad (sB t2 0 (vp_updL (gB t2 0) v1.toNatClampNeg r6))) := hD
        refine lv_aload_n hx hb dX8_followSeat_34 rfl (lv_at hl 1 rfl) ?_
        refine va_get (D := D) (ci := 8) (v := .ref (ad 19)) (C := RX8) (T := TX8) (N := 2) hx hb hts inlX8 hown hK hP 17 rfl rfl 1 (by decide) (hts _ w_4_18) (fun _ h9 => h9) rfl dX8_followSeat_35 ?_
        refine lv_iload hx hb dX8_followSeat_38 (lv_at hl 5 rfl) ?_
        refine lv_iload_n hx hb dX8_followSeat_40 rfl (lv_at hl 2 rfl) ?_
        refine lv_i2l (v := a1.toInt64) hx hb dX8_followSeat_41 rfl ?_
        refine lv_iload_n hx hb dX8_followSeat_42 rfl (lv_at hl 3 rfl) ?_
        refine lv_i2l (v := a2.toInt64) hx hb dX8_followSeat_43 rfl ?_
        refine lv_iload hx hb dX8_followSeat_44 (lv_at hl 0 rfl) ?_
        refine callSLr (rest := [.int v1, .ref (ad 19)]) SF (c_X9_turnY l D cy tz _ a1.toInt64 a2.toInt64 r4 _ h) (cw_RX8_30 hts ⟨Nat.le_of_ble_eq_true rfl, Nat.le_of_ble_eq_true rfl⟩) rfl rfl hK hZ hA hP hD hS rfl hl.1 rfl (Nat.le_of_ble_eq_true rfl) dX8_followSeat_46 ⟨Nat.zero_le _, Nat.zero_le _⟩ (fun r8 H locs h hP hD hS => ?_)
        refine va_last (f := gB t2 1) (n := 61) hx hb hK hP hD hS 19 1 rfl rfl h.1 dX8_followSeat_49 (fun H locs hP hD hS => ?_)
        have h := h.2
        have hP : va_P D vwCl (wX cy ad (sB (sB t2 0 (vp_updL (gB t2 0) v1.toNatClampNeg r6)) 1 (vp_updL (gB t2 1) v1.toNatClampNeg r8))) H := hP
        have hD : va_D A (wX cy ad (sB (sB t2 0 (vp_updL (gB t2 0) v1.toNatClampNeg r6)) 1 (vp_updL (gB t2 1) v1.toNatClampNeg r8))) := hD
        obtain ⟨x10, e11⟩ : ∃ z : Int32, z = v1 + 1 := ⟨_, rfl⟩
        have h := h x10 e11
        refine lv_iinc (v := x10) (lv' := [(4, .int x10), (5, .int r4), (0, .ref (ad 17)), (1, .int a1), (2, .int a2), (3, .ref (ad 13))]) hx hb dX8_followSeat_50 hl (k := 5) rfl (by rw [e11]; rfl) (by decide) rfl (fun ls hl => ?_)
        refine lv_goto (tgt := 3) hx hb dX8_followSeat_53 (by decide) ?_
        exact ih3 _ _ _ _ _ h hP hD hS (lv_sub hl [2, 3, 4, 5, 0] rfl)
  obtain ⟨n, h⟩ := h
  refine loop3 _ ?_ n _ _ _ _ _ h hP hD hS (lv_sub hl [1, 2, 3, 4, 0] rfl)
  intro t12 H locs ls h hP hD hS hl
  exact hret _ _ _ _ _ h hP hD hS dX8_followSeat_56
-- X8_followSeen
def rm_X8_followSeen : Room := { frames := 4, cells := 0, slots := 0, locals := 84 }
abbrev ws_X8_followSeen : List Cond := .code yX8_followSeen cX8_followSeen 5 none :: wsL_law
theorem cw_RX8_33 {R : Room} {s : State} {args : Array Value} (hts : ∀ w ∈ wsL_law, w.before args s = true) (hR : rm_X5_wayBack.frames + 1 ≤ R.frames ∧ 8 + (2 + 11) + rm_X5_wayBack.locals ≤ R.locals) : CallW R s args RX8 RX5 33 yX5_wayBack cX5_wayBack 2 (some .int) ws_X5_wayBack rm_X5_wayBack rm_X5_wayBack.cells rm_X5_wayBack.slots 1 := cwV 1 hts (gdV w_23_7 w_17_15 w_17_16 w_1_23 w_17_17) rfl rfl rfl (by decide +kernel) hR
theorem cw_RX8_36 {R : Room} {s : State} {args : Array Value} (hts : ∀ w ∈ wsL_law, w.before args s = true) (hR : rm_X0_xBehind.frames + 1 ≤ R.frames ∧ 8 + (2 + 11) + rm_X0_xBehind.locals ≤ R.locals) : CallW R s args RX8 RX0 36 yX0_xBehind cX0_xBehind 2 (some .long) ws_X0_xBehind rm_X0_xBehind rm_X0_xBehind.cells rm_X0_xBehind.slots 1 := cwV 1 hts (gdV w_23_8 w_17_7 w_17_8 w_2_3 w_17_9) rfl rfl rfl (by decide +kernel) hR
theorem cw_RX8_42 {R : Room} {s : State} {args : Array Value} (hts : ∀ w ∈ wsL_law, w.before args s = true) (hR : rm_X0_yBehind.frames + 1 ≤ R.frames ∧ 8 + (2 + 11) + rm_X0_yBehind.locals ≤ R.locals) : CallW R s args RX8 RX0 42 yX0_yBehind cX0_yBehind 2 (some .long) ws_X0_yBehind rm_X0_yBehind rm_X0_yBehind.cells rm_X0_yBehind.slots 1 := cwV 1 hts (gdV w_23_9 w_17_11 w_17_12 w_2_3 w_17_13) rfl rfl rfl (by decide +kernel) hR
def wp_X8_followSeen_L2 (post : St → Prop) (K : St → Prop) : Nat → St → Int32 → Prop
  | 0, _, _ => False
  | n2 + 1, t2, v1 => ((20 < v1) → (K t2)) ∧ ((¬ 20 < v1) → (wp_X5_wayBack t2 v1 (fun r4 => wp_X0_xBehind t2 v1 (fun r6 => wp_X0_yBehind t2 v1 (fun r8 => wp_X9_turnX r6 r8 r4 (fun r10 => vp_in v1 61 ∧ (wp_X0_xBehind (sB t2 0 (vp_updL (gB t2 0) v1.toNatClampNeg r10)) v1 (fun r12 => wp_X0_yBehind (sB t2 0 (vp_updL (gB t2 0) v1.toNatClampNeg r10)) v1 (fun r14 => wp_X9_turnY r12 r14 r4 (fun r16 => vp_in v1 61 ∧ (∀ x18 : Int32, x18 = v1 + 1 → (wp_X8_followSeen_L2 post K n2 (sB (sB t2 0 (vp_updL (gB t2 0) v1.toNatClampNeg r10)) 1 (vp_updL (gB t2 1) v1.toNatClampNeg r16)) x18))))))))))))
def wp_X8_followSeen (st : St) (post : St → Prop) : Prop := ∃ m2 : Nat, wp_X8_followSeen_L2 post (fun t20 => post t20) m2 st 0
set_option maxHeartbeats 4000000 in
set_option maxRecDepth 100000 in
theorem c_X8_followSeen (l : Launch) (D : va_G) (cy : Nat → ClassId) (tz : Nat → Nat) (ad : Nat → Nat) (st : St) (post : St → Prop) (h : wp_X8_followSeen st post) : CtV l D cy tz yX8_followSeen ws_X8_followSeen rm_X8_followSeen [.ref (ad 17), .ref (ad 16), .ref (ad 13)] (wX cy ad st) (wX cy ad) post := by
  refine CtV.of (own := RX8) (nm := "followSeen") (lv := [(0, .ref (ad 17)), (1, .ref (ad 16)), (2, .ref (ad 13))]) (plainFor_of_name (by decide)) rfl rfl (Nat.le_of_ble_eq_true rfl) rfl ?_
  intro p e s m args below meth c A Q ls B hP hD hS hl hret
  obtain ⟨hx, hb, hml, hown, hts, hK, hZ, hA, hnm⟩ := B
  have SF : CallFix p m c cX8_followSeen 5 s args wsL_law RX8 := ⟨hx, hb, hml, hown, hts⟩
  unfold wp_X8_followSeen at h
  refine lv_iconst (v := 0) hx hb dX8_followSeen_0 (by decide) ?_
  refine lv_istore_n (lv' := [(3, .int 0), (0, .ref (ad 17)), (1, .ref (ad 16)), (2, .ref (ad 13))]) hx hb dX8_followSeen_1 rfl hl (by decide) rfl (fun ls hl => ?_)
  have loop2 : ∀ (K : St → Prop), (∀ (t20 : St) (H : Heap) (locs : List Loc) (ls : Array Slot), K t20 → va_P D vwCl (wX cy ad t20) H → va_D A (wX cy ad t20) → va_S A s.heap H locs → lv_has ls 5 [] → W p l e rm_X8_followSeen s m args below meth c H locs 0 0 Q (F0 m 63 ls [])) → ∀ (n : Nat) (t2 : St) (v1 : Int32) (H : Heap) (locs : List Loc) (ls : Array Slot), wp_X8_followSeen_L2 post K n t2 v1 → va_P D vwCl (wX cy ad t2) H → va_D A (wX cy ad t2) → va_S A s.heap H locs → lv_has ls 5 [(0, .ref (ad 17)), (1, .ref (ad 16)), (2, .ref (ad 13)), (3, .int v1)] → W p l e rm_X8_followSeen s m args below meth c H locs 0 0 Q (F0 m 2 ls []) := by
    intro K hE2 n
    induction n with
    | zero => intro t2 v1 H locs ls h; exact h.elim
    | succ n ih2 =>
      intro t2 v1 H locs ls h hP hD hS hl
      rw [wp_X8_followSeen_L2] at h
      refine lv_iload_n hx hb dX8_followSeen_2 rfl (lv_at hl 3 rfl) ?_
      refine lv_bipush (v := 20) hx hb dX8_followSeen_3 (by decide) ?_
      refine lv_icmp_gt (tgt := 63) hx hb dX8_followSeen_5 (by decide) (fun c3 => ?_) (fun c3 => ?_)
      · have h := h.1 c3
        exact hE2 _ _ _ _ h hP hD hS (lv_sub hl [] rfl)
      · have h := h.2 c3
        refine lv_aload_n hx hb dX8_followSeen_8 rfl (lv_at hl 2 rfl) ?_
        refine lv_iload_n hx hb dX8_followSeen_9 rfl (lv_at hl 3 rfl) ?_
        refine callVIr (rest := []) SF (c_X5_wayBack l D cy tz ad t2 v1 _ h) (cw_RX8_33 hts ⟨Nat.le_of_ble_eq_true rfl, Nat.le_of_ble_eq_true rfl⟩) rfl rfl (va_recv hK hP (ci := 5) (q0 := 13) rfl rfl) hK hZ hA hP hD hS rfl hl.1 rfl (Nat.le_of_ble_eq_true rfl) dX8_followSeen_10 ⟨Nat.zero_le _, Nat.zero_le _⟩ (fun r4 H locs h hP hD hS => ?_)
        refine lv_istore (lv' := [(4, .int r4), (0, .ref (ad 17)), (1, .ref (ad 16)), (2, .ref (ad 13)), (3, .int v1)]) hx hb dX8_followSeen_13 hl (by decide) rfl (fun ls hl => ?_)
        refine lv_aload_n hx hb dX8_followSeen_15 rfl (lv_at hl 1 rfl) ?_
        refine va_get (D := D) (ci := 8) (v := .ref (ad 18)) (C := RX8) (T := TX8) (N := 2) hx hb hts inlX8 hown hK hP 17 rfl rfl 0 (by decide) (hts _ w_4_17) (fun _ h9 => h9) rfl dX8_followSeen_16 ?_
        refine lv_iload_n hx hb dX8_followSeen_19 rfl (lv_at hl 4 rfl) ?_
        refine lv_aload_n hx hb dX8_followSeen_20 rfl (lv_at hl 2 rfl) ?_
        refine lv_iload_n hx hb dX8_followSeen_21 rfl (lv_at hl 4 rfl) ?_
        refine callVLr (rest := [.int v1, .ref (ad 18)]) SF (c_X0_xBehind l D cy tz ad t2 v1 _ h) (cw_RX8_36 hts ⟨Nat.le_of_ble_eq_true rfl, Nat.le_of_ble_eq_true rfl⟩) rfl rfl (va_recv hK hP (ci := 0) (q0 := 16) rfl rfl) hK hZ hA hP hD hS rfl hl.1 rfl (Nat.le_of_ble_eq_true rfl) dX8_followSeen_22 ⟨Nat.zero_le _, Nat.zero_le _⟩ (fun r6 H locs h hP hD hS => ?_)
        refine lv_aload_n hx hb dX8_followSeen_25 rfl (lv_at hl 2 rfl) ?_
        refine lv_iload_n hx hb dX8_followSeen_26 rfl (lv_at hl 4 rfl) ?_
        refine callVLr (rest := [.long r6, .int v1, .ref (ad 18)]) SF (c_X0_yBehind l D cy tz ad t2 v1 _ h) (cw_RX8_42 hts ⟨Nat.le_of_ble_eq_true rfl, Nat.le_of_ble_eq_true rfl⟩) rfl rfl (va_recv hK hP (ci := 0) (q0 := 16) rfl rfl) hK hZ hA hP hD hS rfl hl.1 rfl (Nat.le_of_ble_eq_true rfl) dX8_followSeen_27 ⟨Nat.zero_le _, Nat.zero_le _⟩ (fun r8 H locs h hP hD hS => ?_)
        refine lv_iload hx hb dX8_followSeen_30 (lv_at hl 0 rfl) ?_
        refine callSLr (rest := [.int v1, .ref (ad 18)]) SF (c_X9_turnX l D cy tz _ r6 r8 r4 _ h) (cw_RX8_24 hts ⟨Nat.le_of_ble_eq_true rfl, Nat.le_of_ble_eq_true rfl⟩) rfl rfl hK hZ hA hP hD hS rfl hl.1 rfl (Nat.le_of_ble_eq_true rfl) dX8_followSeen_32 ⟨Nat.zero_le _, Nat.zero_le _⟩ (fun r10 H locs h hP hD hS => ?_)
        refine va_last (f := gB t2 0) (n := 61) hx hb hK hP hD hS 18 1 rfl rfl h.1 dX8_followSeen_35 (fun H locs hP hD hS => ?_)
        have h := h.2
        have hP : va_P D vwCl (wX cy ad (sB t2 0 (vp_updL (gB t2 0) v1.toNatClampNeg r10))) H := hP
        have hD : va_D A (wX cy ad (sB t2 0 (vp_updL (gB t2 0) v1.toNatClampNeg r10))) := hD
        refine lv_aload_n hx hb dX8_followSeen_36 rfl (lv_at hl 1 rfl) ?_
        refine va_get (D := D) (ci := 8) (v := .ref (ad 19)) (C := RX8) (T := TX8) (N := 2) hx hb hts inlX8 hown hK hP 17 rfl rfl 1 (by decide) (hts _ w_4_18) (fun _ h9 => h9) rfl dX8_followSeen_37 ?_
        refine lv_iload_n hx hb dX8_followSeen_40 rfl (lv_at hl 4 rfl) ?_
        refine lv_aload_n hx hb dX8_followSeen_41 rfl (lv_at hl 2 rfl) ?_
        refine lv_iload_n hx hb dX8_followSeen_42 rfl (lv_at hl 4 rfl) ?_
        refine callVLr (rest := [.int v1, .ref (ad 19)]) SF (c_X0_xBehind l D cy tz ad (sB t2 0 (vp_updL (gB t2 0) v1.toNatClampNeg r10)) v1 _ h) (cw_RX8_36 hts ⟨Nat.le_of_ble_eq_true rfl, Nat.le_of_ble_eq_true rfl⟩) rfl rfl (va_recv hK hP (ci := 0) (q0 := 16) rfl rfl) hK hZ hA hP hD hS rfl hl.1 rfl (Nat.le_of_ble_eq_true rfl) dX8_followSeen_43 ⟨Nat.zero_le _, Nat.zero_le _⟩ (fun r12 H locs h hP hD hS => ?_)
        refine lv_aload_n hx hb dX8_followSeen_46 rfl (lv_at hl 2 rfl) ?_
        refine lv_iload_n hx hb dX8_followSeen_47 rfl (lv_at hl 4 rfl) ?_
        refine callVLr (rest := [.long r12, .int v1, .ref (ad 19)]) SF (c_X0_yBehind l D cy tz ad (sB t2 0 (vp_updL (gB t2 0) v1.toNatClampNeg r10)) v1 _ h) (cw_RX8_42 hts ⟨Nat.le_of_ble_eq_true rfl, Nat.le_of_ble_eq_true rfl⟩) rfl rfl (va_recv hK hP (ci := 0) (q0 := 16) rfl rfl) hK hZ hA hP hD hS rfl hl.1 rfl (Nat.le_of_ble_eq_true rfl) dX8_followSeen_48 ⟨Nat.zero_le _, Nat.zero_le _⟩ (fun r14 H locs h hP hD hS => ?_)
        refine lv_iload hx hb dX8_followSeen_51 (lv_at hl 0 rfl) ?_
        refine callSLr (rest := [.int v1, .ref (ad 19)]) SF (c_X9_turnY l D cy tz _ r12 r14 r4 _ h) (cw_RX8_30 hts ⟨Nat.le_of_ble_eq_true rfl, Nat.le_of_ble_eq_true rfl⟩) rfl rfl hK hZ hA hP hD hS rfl hl.1 rfl (Nat.le_of_ble_eq_true rfl) dX8_followSeen_53 ⟨Nat.zero_le _, Nat.zero_le _⟩ (fun r16 H locs h hP hD hS => ?_)
        refine va_last (f := gB t2 1) (n := 61) hx hb hK hP hD hS 19 1 rfl rfl h.1 dX8_followSeen_56 (fun H locs hP hD hS => ?_)
        have h := h.2
        have hP : va_P D vwCl (wX cy ad (sB (sB t2 0 (vp_updL (gB t2 0) v1.toNatClampNeg r10)) 1 (vp_updL (gB t2 1) v1.toNatClampNeg r16))) H := hP
        have hD : va_D A (wX cy ad (sB (sB t2 0 (vp_updL (gB t2 0) v1.toNatClampNeg r10)) 1 (vp_updL (gB t2 1) v1.toNatClampNeg r16))) := hD
        obtain ⟨x18, e19⟩ : ∃ z : Int32, z = v1 + 1 := ⟨_, rfl⟩
        have h := h x18 e19
        refine lv_iinc (v := x18) (lv' := [(3, .int x18), (4, .int r4), (0, .ref (ad 17)), (1, .ref (ad 16)), (2, .ref (ad 13))]) hx hb dX8_followSeen_57 hl (k := 4) rfl (by rw [e19]; rfl) (by decide) rfl (fun ls hl => ?_)
        refine lv_goto (tgt := 2) hx hb dX8_followSeen_60 (by decide) ?_
        exact ih2 _ _ _ _ _ h hP hD hS (lv_sub hl [2, 3, 4, 0] rfl)
  obtain ⟨n, h⟩ := h
  refine loop2 _ ?_ n _ _ _ _ _ h hP hD hS (lv_sub hl [1, 2, 3, 0] rfl)
  intro t20 H locs ls h hP hD hS hl
  exact hret _ _ _ _ _ h hP hD hS dX8_followSeen_63
-- X8_spansMeet
def rm_X8_spansMeet_c18 : Room := { frames := 1, cells := 0, slots := 0, locals := 17 }
abbrev ws_X8_spansMeet_c18 : List Cond := .code yX8_spansMeet cX8_spansMeet 3 (some .boolean) :: wsL_law
abbrev rm_X8_spansMeet : Room := rm_X8_spansMeet_c18
abbrev ws_X8_spansMeet : List Cond := ws_X8_spansMeet_c18
def wp_X8_spansMeet_c18 (st : St) (a2 : Int32) (a3 : Int32) (post : Int32 → Prop) : Prop := vp_in a2 61 ∧ (vp_in (a2 + 1) 61 ∧ (vp_in a3 61 ∧ (vp_in (a3 + 1) 61 ∧ ((((if (gB st 0 (a3 + 1).toNatClampNeg) < (gB st 0 a3.toNatClampNeg) then (gB st 0 a3.toNatClampNeg) else (gB st 0 (a3 + 1).toNatClampNeg)) < (if (gB st 0 (a2 + 1).toNatClampNeg) < (gB st 0 a2.toNatClampNeg) then (gB st 0 (a2 + 1).toNatClampNeg) else (gB st 0 a2.toNatClampNeg))) → (post 0)) ∧ ((¬ (if (gB st 0 (a3 + 1).toNatClampNeg) < (gB st 0 a3.toNatClampNeg) then (gB st 0 a3.toNatClampNeg) else (gB st 0 (a3 + 1).toNatClampNeg)) < (if (gB st 0 (a2 + 1).toNatClampNeg) < (gB st 0 a2.toNatClampNeg) then (gB st 0 (a2 + 1).toNatClampNeg) else (gB st 0 a2.toNatClampNeg))) → (vp_in a3 61 ∧ (vp_in (a3 + 1) 61 ∧ (vp_in a2 61 ∧ (vp_in (a2 + 1) 61 ∧ ((((if (gB st 0 (a2 + 1).toNatClampNeg) < (gB st 0 a2.toNatClampNeg) then (gB st 0 a2.toNatClampNeg) else (gB st 0 (a2 + 1).toNatClampNeg)) < (if (gB st 0 (a3 + 1).toNatClampNeg) < (gB st 0 a3.toNatClampNeg) then (gB st 0 (a3 + 1).toNatClampNeg) else (gB st 0 a3.toNatClampNeg))) → (post 0)) ∧ ((¬ (if (gB st 0 (a2 + 1).toNatClampNeg) < (gB st 0 a2.toNatClampNeg) then (gB st 0 a2.toNatClampNeg) else (gB st 0 (a2 + 1).toNatClampNeg)) < (if (gB st 0 (a3 + 1).toNatClampNeg) < (gB st 0 a3.toNatClampNeg) then (gB st 0 (a3 + 1).toNatClampNeg) else (gB st 0 a3.toNatClampNeg))) → (post 1))))))))))))
set_option maxHeartbeats 4000000 in
set_option maxRecDepth 100000 in
theorem c_X8_spansMeet_c18 (l : Launch) (D : va_G) (cy : Nat → ClassId) (tz : Nat → Nat) (ad : Nat → Nat) (st : St) (a2 : Int32) (a3 : Int32) (post : Int32 → Prop) (h : wp_X8_spansMeet_c18 st a2 a3 post) : CtI l D cy tz yX8_spansMeet ws_X8_spansMeet_c18 rm_X8_spansMeet_c18 [.ref (ad 18), .int a2, .int a3] (wX cy ad st) (fun _ : Unit => wX cy ad st) (fun r _ => post r) := by
  refine CtI.of (own := RX8) (nm := "spansMeet") (lv := [(0, .ref (ad 18)), (1, .int a2), (2, .int a3)]) (plainFor_of_name (by decide)) rfl rfl (Nat.le_of_ble_eq_true rfl) rfl ?_
  intro p e s m args below meth c A Q ls B hP hD hS hl hret
  obtain ⟨hx, hb, hml, hown, hts, hK, hZ, hA, hnm⟩ := B
  have SF : CallFix p m c cX8_spansMeet 3 s args wsL_law RX8 := ⟨hx, hb, hml, hown, hts⟩
  unfold wp_X8_spansMeet_c18 at h
  refine lv_aload_n hx hb dX8_spansMeet_0 rfl (lv_at hl 0 rfl) ?_
  refine lv_iload_n hx hb dX8_spansMeet_1 rfl (lv_at hl 1 rfl) ?_
  refine va_lald (f := gB st 0) (n := 61) hx hb hK hP 18 1 rfl rfl h.1 dX8_spansMeet_2 ?_
  have h := h.2
  refine lv_aload_n hx hb dX8_spansMeet_3 rfl (lv_at hl 0 rfl) ?_
  refine lv_iload_n hx hb dX8_spansMeet_4 rfl (lv_at hl 1 rfl) ?_
  refine lv_iconst (v := 1) hx hb dX8_spansMeet_5 (by decide) ?_
  refine lv_iadd hx hb dX8_spansMeet_6 ?_
  refine va_lald (f := gB st 0) (n := 61) hx hb hK hP 18 1 rfl rfl h.1 dX8_spansMeet_7 ?_
  have h := h.2
  refine va_mmin_long hx hb (hml.trans hl.1.symm) hown (hts _ w_23_21) (hts _ w_23_22) (hts _ w_11_4) (hts _ w_23_23) (Nat.le_of_ble_eq_true rfl) (Nat.le_of_ble_eq_true rfl) (Nat.zero_le _) (Nat.zero_le _) dX8_spansMeet_8 ?_
  refine lv_aload_n hx hb dX8_spansMeet_11 rfl (lv_at hl 0 rfl) ?_
  refine lv_iload_n hx hb dX8_spansMeet_12 rfl (lv_at hl 2 rfl) ?_
  refine va_lald (f := gB st 0) (n := 61) hx hb hK hP 18 1 rfl rfl h.1 dX8_spansMeet_13 ?_
  have h := h.2
  refine lv_aload_n hx hb dX8_spansMeet_14 rfl (lv_at hl 0 rfl) ?_
  refine lv_iload_n hx hb dX8_spansMeet_15 rfl (lv_at hl 2 rfl) ?_
  refine lv_iconst (v := 1) hx hb dX8_spansMeet_16 (by decide) ?_
  refine lv_iadd hx hb dX8_spansMeet_17 ?_
  refine va_lald (f := gB st 0) (n := 61) hx hb hK hP 18 1 rfl rfl h.1 dX8_spansMeet_18 ?_
  have h := h.2
  refine va_mmax_long hx hb (hml.trans hl.1.symm) hown (hts _ w_24_0) (hts _ w_20_4) (hts _ w_11_4) (hts _ w_20_5) (Nat.le_of_ble_eq_true rfl) (Nat.le_of_ble_eq_true rfl) (Nat.zero_le _) (Nat.zero_le _) dX8_spansMeet_19 ?_
  refine W.lcmp hx hb dX8_spansMeet_22 ?_
  refine lv_if_gt (tgt := 56) hx hb dX8_spansMeet_23 (by decide) (fun c1 => ?_) (fun c1 => ?_)
  · have h := h.1 ((lg_cmp_gt _ _).mp c1)
    refine lv_iconst (v := 0) hx hb dX8_spansMeet_56 (by decide) ?_
    exact hret _ () _ _ _ _ rfl h hP hD hS dX8_spansMeet_57
  · have h := h.2 (fun z => c1 ((lg_cmp_gt _ _).mpr z))
    refine lv_aload_n hx hb dX8_spansMeet_26 rfl (lv_at hl 0 rfl) ?_
    refine lv_iload_n hx hb dX8_spansMeet_27 rfl (lv_at hl 2 rfl) ?_
    refine va_lald (f := gB st 0) (n := 61) hx hb hK hP 18 1 rfl rfl h.1 dX8_spansMeet_28 ?_
    have h := h.2
    refine lv_aload_n hx hb dX8_spansMeet_29 rfl (lv_at hl 0 rfl) ?_
    refine lv_iload_n hx hb dX8_spansMeet_30 rfl (lv_at hl 2 rfl) ?_
    refine lv_iconst (v := 1) hx hb dX8_spansMeet_31 (by decide) ?_
    refine lv_iadd hx hb dX8_spansMeet_32 ?_
    refine va_lald (f := gB st 0) (n := 61) hx hb hK hP 18 1 rfl rfl h.1 dX8_spansMeet_33 ?_
    have h := h.2
    refine va_mmin_long hx hb (hml.trans hl.1.symm) hown (hts _ w_23_21) (hts _ w_23_22) (hts _ w_11_4) (hts _ w_23_23) (Nat.le_of_ble_eq_true rfl) (Nat.le_of_ble_eq_true rfl) (Nat.zero_le _) (Nat.zero_le _) dX8_spansMeet_34 ?_
    refine lv_aload_n hx hb dX8_spansMeet_37 rfl (lv_at hl 0 rfl) ?_
    refine lv_iload_n hx hb dX8_spansMeet_38 rfl (lv_at hl 1 rfl) ?_
    refine va_lald (f := gB st 0) (n := 61) hx hb hK hP 18 1 rfl rfl h.1 dX8_spansMeet_39 ?_
    have h := h.2
    refine lv_aload_n hx hb dX8_spansMeet_40 rfl (lv_at hl 0 rfl) ?_
    refine lv_iload_n hx hb dX8_spansMeet_41 rfl (lv_at hl 1 rfl) ?_
    refine lv_iconst (v := 1) hx hb dX8_spansMeet_42 (by decide) ?_
    refine lv_iadd hx hb dX8_spansMeet_43 ?_
    refine va_lald (f := gB st 0) (n := 61) hx hb hK hP 18 1 rfl rfl h.1 dX8_spansMeet_44 ?_
    have h := h.2
    refine va_mmax_long hx hb (hml.trans hl.1.symm) hown (hts _ w_24_0) (hts _ w_20_4) (hts _ w_11_4) (hts _ w_20_5) (Nat.le_of_ble_eq_true rfl) (Nat.le_of_ble_eq_true rfl) (Nat.zero_le _) (Nat.zero_le _) dX8_spansMeet_45 ?_
    refine W.lcmp hx hb dX8_spansMeet_48 ?_
    refine lv_if_gt (tgt := 56) hx hb dX8_spansMeet_49 (by decide) (fun c2 => ?_) (fun c2 => ?_)
    · have h := h.1 ((lg_cmp_gt _ _).mp c2)
      refine lv_iconst (v := 0) hx hb dX8_spansMeet_56 (by decide) ?_
      exact hret _ () _ _ _ _ rfl h hP hD hS dX8_spansMeet_57
    · have h := h.2 (fun z => c2 ((lg_cmp_gt _ _).mpr z))
      refine lv_iconst (v := 1) hx hb dX8_spansMeet_52 (by decide) ?_
      refine lv_goto (tgt := 57) hx hb dX8_spansMeet_53 (by decide) ?_
      exact hret _ () _ _ _ _ rfl h hP hD hS dX8_spansMeet_57
-- X8_spansMeet
abbrev rm_X8_spansMeet_c19 : Room := rm_X8_spansMeet
abbrev ws_X8_spansMeet_c19 : List Cond := .code yX8_spansMeet cX8_spansMeet 3 (some .boolean) :: wsL_law
def wp_X8_spansMeet_c19 (st : St) (a2 : Int32) (a3 : Int32) (post : Int32 → Prop) : Prop := vp_in a2 61 ∧ (vp_in (a2 + 1) 61 ∧ (vp_in a3 61 ∧ (vp_in (a3 + 1) 61 ∧ ((((if (gB st 1 (a3 + 1).toNatClampNeg) < (gB st 1 a3.toNatClampNeg) then (gB st 1 a3.toNatClampNeg) else (gB st 1 (a3 + 1).toNatClampNeg)) < (if (gB st 1 (a2 + 1).toNatClampNeg) < (gB st 1 a2.toNatClampNeg) then (gB st 1 (a2 + 1).toNatClampNeg) else (gB st 1 a2.toNatClampNeg))) → (post 0)) ∧ ((¬ (if (gB st 1 (a3 + 1).toNatClampNeg) < (gB st 1 a3.toNatClampNeg) then (gB st 1 a3.toNatClampNeg) else (gB st 1 (a3 + 1).toNatClampNeg)) < (if (gB st 1 (a2 + 1).toNatClampNeg) < (gB st 1 a2.toNatClampNeg) then (gB st 1 (a2 + 1).toNatClampNeg) else (gB st 1 a2.toNatClampNeg))) → (vp_in a3 61 ∧ (vp_in (a3 + 1) 61 ∧ (vp_in a2 61 ∧ (vp_in (a2 + 1) 61 ∧ ((((if (gB st 1 (a2 + 1).toNatClampNeg) < (gB st 1 a2.toNatClampNeg) then (gB st 1 a2.toNatClampNeg) else (gB st 1 (a2 + 1).toNatClampNeg)) < (if (gB st 1 (a3 + 1).toNatClampNeg) < (gB st 1 a3.toNatClampNeg) then (gB st 1 (a3 + 1).toNatClampNeg) else (gB st 1 a3.toNatClampNeg))) → (post 0)) ∧ ((¬ (if (gB st 1 (a2 + 1).toNatClampNeg) < (gB st 1 a2.toNatClampNeg) then (gB st 1 a2.toNatClampNeg) else (gB st 1 (a2 + 1).toNatClampNeg)) < (if (gB st 1 (a3 + 1).toNatClampNeg) < (gB st 1 a3.toNatClampNeg) then (gB st 1 (a3 + 1).toNatClampNeg) else (gB st 1 a3.toNatClampNeg))) → (post 1))))))))))))
set_option maxHeartbeats 4000000 in
set_option maxRecDepth 100000 in
theorem c_X8_spansMeet_c19 (l : Launch) (D : va_G) (cy : Nat → ClassId) (tz : Nat → Nat) (ad : Nat → Nat) (st : St) (a2 : Int32) (a3 : Int32) (post : Int32 → Prop) (h : wp_X8_spansMeet_c19 st a2 a3 post) : CtI l D cy tz yX8_spansMeet ws_X8_spansMeet_c19 rm_X8_spansMeet_c19 [.ref (ad 19), .int a2, .int a3] (wX cy ad st) (fun _ : Unit => wX cy ad st) (fun r _ => post r) := by
  refine CtI.of (own := RX8) (nm := "spansMeet") (lv := [(0, .ref (ad 19)), (1, .int a2), (2, .int a3)]) (plainFor_of_name (by decide)) rfl rfl (Nat.le_of_ble_eq_true rfl) rfl ?_
  intro p e s m args below meth c A Q ls B hP hD hS hl hret
  obtain ⟨hx, hb, hml, hown, hts, hK, hZ, hA, hnm⟩ := B
  have SF : CallFix p m c cX8_spansMeet 3 s args wsL_law RX8 := ⟨hx, hb, hml, hown, hts⟩
  unfold wp_X8_spansMeet_c19 at h
  refine lv_aload_n hx hb dX8_spansMeet_0 rfl (lv_at hl 0 rfl) ?_
  refine lv_iload_n hx hb dX8_spansMeet_1 rfl (lv_at hl 1 rfl) ?_
  refine va_lald (f := gB st 1) (n := 61) hx hb hK hP 19 1 rfl rfl h.1 dX8_spansMeet_2 ?_
  have h := h.2
  refine lv_aload_n hx hb dX8_spansMeet_3 rfl (lv_at hl 0 rfl) ?_
  refine lv_iload_n hx hb dX8_spansMeet_4 rfl (lv_at hl 1 rfl) ?_
  refine lv_iconst (v := 1) hx hb dX8_spansMeet_5 (by decide) ?_
  refine lv_iadd hx hb dX8_spansMeet_6 ?_
  refine va_lald (f := gB st 1) (n := 61) hx hb hK hP 19 1 rfl rfl h.1 dX8_spansMeet_7 ?_
  have h := h.2
  refine va_mmin_long hx hb (hml.trans hl.1.symm) hown (hts _ w_23_21) (hts _ w_23_22) (hts _ w_11_4) (hts _ w_23_23) (Nat.le_of_ble_eq_true rfl) (Nat.le_of_ble_eq_true rfl) (Nat.zero_le _) (Nat.zero_le _) dX8_spansMeet_8 ?_
  refine lv_aload_n hx hb dX8_spansMeet_11 rfl (lv_at hl 0 rfl) ?_
  refine lv_iload_n hx hb dX8_spansMeet_12 rfl (lv_at hl 2 rfl) ?_
  refine va_lald (f := gB st 1) (n := 61) hx hb hK hP 19 1 rfl rfl h.1 dX8_spansMeet_13 ?_
  have h := h.2
  refine lv_aload_n hx hb dX8_spansMeet_14 rfl (lv_at hl 0 rfl) ?_
  refine lv_iload_n hx hb dX8_spansMeet_15 rfl (lv_at hl 2 rfl) ?_
  refine lv_iconst (v := 1) hx hb dX8_spansMeet_16 (by decide) ?_
  refine lv_iadd hx hb dX8_spansMeet_17 ?_
  refine va_lald (f := gB st 1) (n := 61) hx hb hK hP 19 1 rfl rfl h.1 dX8_spansMeet_18 ?_
  have h := h.2
  refine va_mmax_long hx hb (hml.trans hl.1.symm) hown (hts _ w_24_0) (hts _ w_20_4) (hts _ w_11_4) (hts _ w_20_5) (Nat.le_of_ble_eq_true rfl) (Nat.le_of_ble_eq_true rfl) (Nat.zero_le _) (Nat.zero_le _) dX8_spansMeet_19 ?_
  refine W.lcmp hx hb dX8_spansMeet_22 ?_
  refine lv_if_gt (tgt := 56) hx hb dX8_spansMeet_23 (by decide) (fun c1 => ?_) (fun c1 => ?_)
  · have h := h.1 ((lg_cmp_gt _ _).mp c1)
    refine lv_iconst (v := 0) hx hb dX8_spansMeet_56 (by decide) ?_
    exact hret _ () _ _ _ _ rfl h hP hD hS dX8_spansMeet_57
  · have h := h.2 (fun z => c1 ((lg_cmp_gt _ _).mpr z))
    refine lv_aload_n hx hb dX8_spansMeet_26 rfl (lv_at hl 0 rfl) ?_
    refine lv_iload_n hx hb dX8_spansMeet_27 rfl (lv_at hl 2 rfl) ?_
    refine va_lald (f := gB st 1) (n := 61) hx hb hK hP 19 1 rfl rfl h.1 dX8_spansMeet_28 ?_
    have h := h.2
    refine lv_aload_n hx hb dX8_spansMeet_29 rfl (lv_at hl 0 rfl) ?_
    refine lv_iload_n hx hb dX8_spansMeet_30 rfl (lv_at hl 2 rfl) ?_
    refine lv_iconst (v := 1) hx hb dX8_spansMeet_31 (by decide) ?_
    refine lv_iadd hx hb dX8_spansMeet_32 ?_
    refine va_lald (f := gB st 1) (n := 61) hx hb hK hP 19 1 rfl rfl h.1 dX8_spansMeet_33 ?_
    have h := h.2
    refine va_mmin_long hx hb (hml.trans hl.1.symm) hown (hts _ w_23_21) (hts _ w_23_22) (hts _ w_11_4) (hts _ w_23_23) (Nat.le_of_ble_eq_true rfl) (Nat.le_of_ble_eq_true rfl) (Nat.zero_le _) (Nat.zero_le _) dX8_spansMeet_34 ?_
    refine lv_aload_n hx hb dX8_spansMeet_37 rfl (lv_at hl 0 rfl) ?_
    refine lv_iload_n hx hb dX8_spansMeet_38 rfl (lv_at hl 1 rfl) ?_
    refine va_lald (f := gB st 1) (n := 61) hx hb hK hP 19 1 rfl rfl h.1 dX8_spansMeet_39 ?_
    have h := h.2
    refine lv_aload_n hx hb dX8_spansMeet_40 rfl (lv_at hl 0 rfl) ?_
    refine lv_iload_n hx hb dX8_spansMeet_41 rfl (lv_at hl 1 rfl) ?_
    refine lv_iconst (v := 1) hx hb dX8_spansMeet_42 (by decide) ?_
    refine lv_iadd hx hb dX8_spansMeet_43 ?_
    refine va_lald (f := gB st 1) (n := 61) hx hb hK hP 19 1 rfl rfl h.1 dX8_spansMeet_44 ?_
    have h := h.2
    refine va_mmax_long hx hb (hml.trans hl.1.symm) hown (hts _ w_24_0) (hts _ w_20_4) (hts _ w_11_4) (hts _ w_20_5) (Nat.le_of_ble_eq_true rfl) (Nat.le_of_ble_eq_true rfl) (Nat.zero_le _) (Nat.zero_le _) dX8_spansMeet_45 ?_
    refine W.lcmp hx hb dX8_spansMeet_48 ?_
    refine lv_if_gt (tgt := 56) hx hb dX8_spansMeet_49 (by decide) (fun c2 => ?_) (fun c2 => ?_)
    · have h := h.1 ((lg_cmp_gt _ _).mp c2)
      refine lv_iconst (v := 0) hx hb dX8_spansMeet_56 (by decide) ?_
      exact hret _ () _ _ _ _ rfl h hP hD hS dX8_spansMeet_57
    · have h := h.2 (fun z => c2 ((lg_cmp_gt _ _).mpr z))
      refine lv_iconst (v := 1) hx hb dX8_spansMeet_52 (by decide) ?_
      refine lv_goto (tgt := 57) hx hb dX8_spansMeet_53 (by decide) ?_
      exact hret _ () _ _ _ _ rfl h hP hD hS dX8_spansMeet_57
-- X8_side
def rm_X8_side : Room := { frames := 0, cells := 0, slots := 0, locals := 0 }
abbrev ws_X8_side : List Cond := .code yX8_side cX8_side 3 (some .long) :: wsL_law
def wp_X8_side (st : St) (a1 : Int32) (a2 : Int32) (post : Int64 → Prop) : Prop := vp_in (a1 + 1) 61 ∧ (vp_in a1 61 ∧ (vp_in a2 61 ∧ (vp_in a1 61 ∧ (vp_in (a1 + 1) 61 ∧ (vp_in a1 61 ∧ (vp_in a2 61 ∧ (vp_in a1 61 ∧ (post ((((gB st 0 (a1 + 1).toNatClampNeg) - (gB st 0 a1.toNatClampNeg)) * ((gB st 1 a2.toNatClampNeg) - (gB st 1 a1.toNatClampNeg))) - (((gB st 1 (a1 + 1).toNatClampNeg) - (gB st 1 a1.toNatClampNeg)) * ((gB st 0 a2.toNatClampNeg) - (gB st 0 a1.toNatClampNeg))))))))))))
set_option maxHeartbeats 4000000 in
set_option maxRecDepth 100000 in
theorem c_X8_side (l : Launch) (D : va_G) (cy : Nat → ClassId) (tz : Nat → Nat) (ad : Nat → Nat) (st : St) (a1 : Int32) (a2 : Int32) (post : Int64 → Prop) (h : wp_X8_side st a1 a2 post) : CtL l D cy tz yX8_side ws_X8_side rm_X8_side [.ref (ad 17), .int a1, .int a2] (wX cy ad st) (fun _ : Unit => wX cy ad st) (fun r _ => post r) := by
  refine CtL.of (own := RX8) (nm := "side") (lv := [(0, .ref (ad 17)), (1, .int a1), (2, .int a2)]) (plainFor_of_name (by decide)) rfl rfl (Nat.le_of_ble_eq_true rfl) rfl ?_
  intro p e s m args below meth c A Q ls B hP hD hS hl hret
  obtain ⟨hx, hb, hml, hown, hts, hK, hZ, hA, hnm⟩ := B
  have SF : CallFix p m c cX8_side 3 s args wsL_law RX8 := ⟨hx, hb, hml, hown, hts⟩
  unfold wp_X8_side at h
  refine lv_aload_n hx hb dX8_side_0 rfl (lv_at hl 0 rfl) ?_
  refine va_get (D := D) (ci := 8) (v := .ref (ad 18)) (C := RX8) (T := TX8) (N := 2) hx hb hts inlX8 hown hK hP 17 rfl rfl 0 (by decide) (hts _ w_4_17) (fun _ h9 => h9) rfl dX8_side_1 ?_
  refine lv_iload_n hx hb dX8_side_4 rfl (lv_at hl 1 rfl) ?_
  refine lv_iconst (v := 1) hx hb dX8_side_5 (by decide) ?_
  refine lv_iadd hx hb dX8_side_6 ?_
  refine va_lald (f := gB st 0) (n := 61) hx hb hK hP 18 1 rfl rfl h.1 dX8_side_7 ?_
  have h := h.2
  refine lv_aload_n hx hb dX8_side_8 rfl (lv_at hl 0 rfl) ?_
  refine va_get (D := D) (ci := 8) (v := .ref (ad 18)) (C := RX8) (T := TX8) (N := 2) hx hb hts inlX8 hown hK hP 17 rfl rfl 0 (by decide) (hts _ w_4_17) (fun _ h9 => h9) rfl dX8_side_9 ?_
  refine lv_iload_n hx hb dX8_side_12 rfl (lv_at hl 1 rfl) ?_
  refine va_lald (f := gB st 0) (n := 61) hx hb hK hP 18 1 rfl rfl h.1 dX8_side_13 ?_
  have h := h.2
  refine lv_lsub hx hb dX8_side_14 ?_
  refine lv_aload_n hx hb dX8_side_15 rfl (lv_at hl 0 rfl) ?_
  refine va_get (D := D) (ci := 8) (v := .ref (ad 19)) (C := RX8) (T := TX8) (N := 2) hx hb hts inlX8 hown hK hP 17 rfl rfl 1 (by decide) (hts _ w_4_18) (fun _ h9 => h9) rfl dX8_side_16 ?_
  refine lv_iload_n hx hb dX8_side_19 rfl (lv_at hl 2 rfl) ?_
  refine va_lald (f := gB st 1) (n := 61) hx hb hK hP 19 1 rfl rfl h.1 dX8_side_20 ?_
  have h := h.2
  refine lv_aload_n hx hb dX8_side_21 rfl (lv_at hl 0 rfl) ?_
  refine va_get (D := D) (ci := 8) (v := .ref (ad 19)) (C := RX8) (T := TX8) (N := 2) hx hb hts inlX8 hown hK hP 17 rfl rfl 1 (by decide) (hts _ w_4_18) (fun _ h9 => h9) rfl dX8_side_22 ?_
  refine lv_iload_n hx hb dX8_side_25 rfl (lv_at hl 1 rfl) ?_
  refine va_lald (f := gB st 1) (n := 61) hx hb hK hP 19 1 rfl rfl h.1 dX8_side_26 ?_
  have h := h.2
  refine lv_lsub hx hb dX8_side_27 ?_
  refine lv_lmul hx hb dX8_side_28 ?_
  refine lv_aload_n hx hb dX8_side_29 rfl (lv_at hl 0 rfl) ?_
  refine va_get (D := D) (ci := 8) (v := .ref (ad 19)) (C := RX8) (T := TX8) (N := 2) hx hb hts inlX8 hown hK hP 17 rfl rfl 1 (by decide) (hts _ w_4_18) (fun _ h9 => h9) rfl dX8_side_30 ?_
  refine lv_iload_n hx hb dX8_side_33 rfl (lv_at hl 1 rfl) ?_
  refine lv_iconst (v := 1) hx hb dX8_side_34 (by decide) ?_
  refine lv_iadd hx hb dX8_side_35 ?_
  refine va_lald (f := gB st 1) (n := 61) hx hb hK hP 19 1 rfl rfl h.1 dX8_side_36 ?_
  have h := h.2
  refine lv_aload_n hx hb dX8_side_37 rfl (lv_at hl 0 rfl) ?_
  refine va_get (D := D) (ci := 8) (v := .ref (ad 19)) (C := RX8) (T := TX8) (N := 2) hx hb hts inlX8 hown hK hP 17 rfl rfl 1 (by decide) (hts _ w_4_18) (fun _ h9 => h9) rfl dX8_side_38 ?_
  refine lv_iload_n hx hb dX8_side_41 rfl (lv_at hl 1 rfl) ?_
  refine va_lald (f := gB st 1) (n := 61) hx hb hK hP 19 1 rfl rfl h.1 dX8_side_42 ?_
  have h := h.2
  refine lv_lsub hx hb dX8_side_43 ?_
  refine lv_aload_n hx hb dX8_side_44 rfl (lv_at hl 0 rfl) ?_
  refine va_get (D := D) (ci := 8) (v := .ref (ad 18)) (C := RX8) (T := TX8) (N := 2) hx hb hts inlX8 hown hK hP 17 rfl rfl 0 (by decide) (hts _ w_4_17) (fun _ h9 => h9) rfl dX8_side_45 ?_
  refine lv_iload_n hx hb dX8_side_48 rfl (lv_at hl 2 rfl) ?_
  refine va_lald (f := gB st 0) (n := 61) hx hb hK hP 18 1 rfl rfl h.1 dX8_side_49 ?_
  have h := h.2
  refine lv_aload_n hx hb dX8_side_50 rfl (lv_at hl 0 rfl) ?_
  refine va_get (D := D) (ci := 8) (v := .ref (ad 18)) (C := RX8) (T := TX8) (N := 2) hx hb hts inlX8 hown hK hP 17 rfl rfl 0 (by decide) (hts _ w_4_17) (fun _ h9 => h9) rfl dX8_side_51 ?_
  refine lv_iload_n hx hb dX8_side_54 rfl (lv_at hl 1 rfl) ?_
  refine va_lald (f := gB st 0) (n := 61) hx hb hK hP 18 1 rfl rfl h.1 dX8_side_55 ?_
  have h := h.2
  refine lv_lsub hx hb dX8_side_56 ?_
  refine lv_lmul hx hb dX8_side_57 ?_
  refine lv_lsub hx hb dX8_side_58 ?_
  exact hret _ () _ _ _ _ h hP hD hS dX8_side_59
-- J13_signum_95d88
def rm_J13_signum_95d88 : Room := { frames := 0, cells := 0, slots := 0, locals := 0 }
abbrev ws_J13_signum_95d88 : List Cond := .code yJ13_signum_95d88 cJ13_signum_95d88 2 (some .int) :: wsL_law
def wp_J13_signum_95d88 (a1 : Int64) (post : Int32 → Prop) : Prop := post (((a1 >>> ((63 : Int32).toInt64 &&& 63)) ||| ((-a1).toUInt64 >>> ((63 : Int32).toInt64.toUInt64 &&& Int64.toUInt64 63)).toInt64).toInt32)
set_option maxHeartbeats 4000000 in
set_option maxRecDepth 100000 in
theorem c_J13_signum_95d88 (l : Launch) (D : va_G) (cy : Nat → ClassId) (tz : Nat → Nat) (w : va_W) (a1 : Int64) (post : Int32 → Prop) (h : wp_J13_signum_95d88 a1 post) : CtI l D cy tz yJ13_signum_95d88 ws_J13_signum_95d88 rm_J13_signum_95d88 [.long a1] w (fun _ : Unit => w) (fun r _ => post r) := by
  refine CtI.of (own := RJ13) (nm := "signum") (lv := [(0, .long a1)]) (plainFor_of_name (by decide)) rfl rfl (Nat.le_of_ble_eq_true rfl) rfl ?_
  intro p e s m args below meth c A Q ls B hP hD hS hl hret
  obtain ⟨hx, hb, hml, hown, hts, hK, hZ, hA, hnm⟩ := B
  have SF : CallFix p m c cJ13_signum_95d88 2 s args wsL_law RJ13 := ⟨hx, hb, hml, hown, hts⟩
  unfold wp_J13_signum_95d88 at h
  refine lv_lload_n hx hb dJ13_signum_95d88_0 rfl (lv_at hl 0 rfl) ?_
  refine lv_bipush (v := 63) hx hb dJ13_signum_95d88_1 (by decide) ?_
  refine lv_lshr (v := (a1 >>> ((63 : Int32).toInt64 &&& 63))) hx hb dJ13_signum_95d88_3 rfl ?_
  refine lv_lload_n hx hb dJ13_signum_95d88_4 rfl (lv_at hl 0 rfl) ?_
  refine lv_lneg hx hb dJ13_signum_95d88_5 ?_
  refine lv_bipush (v := 63) hx hb dJ13_signum_95d88_6 (by decide) ?_
  refine lv_lushr (v := ((-a1).toUInt64 >>> ((63 : Int32).toInt64.toUInt64 &&& Int64.toUInt64 63)).toInt64) hx hb dJ13_signum_95d88_8 rfl ?_
  refine lv_lor hx hb dJ13_signum_95d88_9 ?_
  refine lv_l2i (v := ((a1 >>> ((63 : Int32).toInt64 &&& 63)) ||| ((-a1).toUInt64 >>> ((63 : Int32).toInt64.toUInt64 &&& Int64.toUInt64 63)).toInt64).toInt32) hx hb dJ13_signum_95d88_10 rfl ?_
  exact hret _ () _ _ _ _ rfl h hP hD hS dJ13_signum_95d88_11
