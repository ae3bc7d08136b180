-- X11_firstWay
def rm_X11_firstWay : Room := { frames := 1, cells := 0, slots := 0, locals := 27 }
abbrev ws_X11_firstWay : List Cond := .code yX11_firstWay cX11_firstWay 10 (some .int) :: wsL_law
def wp_X11_firstWay_L9 (post : Int32 → St → Prop) (K : St → Int32 → Prop) (a1 : Int32) (a2 : Int32) (a3 : Int32) : Nat → St → Int32 → Int64 → Int32 → Prop
  | 0, _, _, _, _ => False
  | n9 + 1, t4, v1, v2, v3 => ((24 ≤ v3) → (K t4 v1)) ∧ ((¬ 24 ≤ v3) → (wp_X11_turnPoint t4 a2 0 v3 (fun t7 => vp_in a3 8 ∧ (vp_in a1 8 ∧ (vp_in a3 8 ∧ (vp_in a1 8 ∧ (∀ x8 : Int64, x8 = (((gI t7 1).toInt64 * ((gA t7 12 a3.toNatClampNeg) - (gA t7 12 a1.toNatClampNeg)).toInt64) + ((gI t7 2).toInt64 * ((gA t7 13 a3.toNatClampNeg) - (gA t7 13 a1.toNatClampNeg)).toInt64)) → (((v3 = 0) → (∀ x11 : Int32, x11 = v3 + 1 → (wp_X11_firstWay_L9 post K a1 a2 a3 n9 t7 v3 x8 x11))) ∧ ((¬ v3 = 0) → (((x8 ≤ v2) → (∀ x14 : Int32, x14 = v3 + 1 → (wp_X11_firstWay_L9 post K a1 a2 a3 n9 t7 v1 v2 x14))) ∧ ((¬ x8 ≤ v2) → (∀ x16 : Int32, x16 = v3 + 1 → (wp_X11_firstWay_L9 post K a1 a2 a3 n9 t7 v3 x8 x16)))))))))))))
def wp_X11_firstWay (st : St) (a1 : Int32) (a2 : Int32) (a3 : Int32) (post : Int32 → St → Prop) : Prop := ∃ m9 : Nat, wp_X11_firstWay_L9 post (fun t19 v18 => post v18 t19) a1 a2 a3 m9 st 0 0 0
set_option maxHeartbeats 4000000 in
set_option maxRecDepth 100000 in
theorem c_X11_firstWay (l : Launch) (D : va_G) (cy : Nat → ClassId) (tz : Nat → Nat) (ad : Nat → Nat) (st : St) (a1 : Int32) (a2 : Int32) (a3 : Int32) (post : Int32 → St → Prop) (h : wp_X11_firstWay st a1 a2 a3 post) : CtI l D cy tz yX11_firstWay ws_X11_firstWay rm_X11_firstWay [.ref (ad 0), .int a1, .int a2, .int a3] (wM cy ad st) (wM cy ad) post := by
  refine CtI.of (own := RX11) (nm := "firstWay") (lv := [(0, .ref (ad 0)), (1, .int a1), (2, .int a2), (3, .int a3)]) (plainFor_of_name (by decide)) rfl rfl (Nat.le_of_ble_eq_true rfl) rfl ?_
  intro p e s m args below meth c A Q ls B hP hD hS hl hret
  obtain ⟨hx, hb, hml, hown, hts, hK, hZ, hA, hnm⟩ := B
  have SF : CallFix p m c cX11_firstWay 10 s args wsL_law RX11 := ⟨hx, hb, hml, hown, hts⟩
  unfold wp_X11_firstWay at h
  refine lv_iconst (v := 0) hx hb dX11_firstWay_0 (by decide) ?_
  refine lv_istore (lv' := [(4, .int 0), (0, .ref (ad 0)), (1, .int a1), (2, .int a2), (3, .int a3)]) hx hb dX11_firstWay_1 hl (by decide) rfl (fun ls hl => ?_)
  refine lv_lconst (v := 0) hx hb dX11_firstWay_3 (by decide) ?_
  refine lv_lstore (lv' := [(5, .long 0), (4, .int 0), (0, .ref (ad 0)), (1, .int a1), (2, .int a2), (3, .int a3)]) hx hb dX11_firstWay_4 hl (by decide) rfl (fun ls hl => ?_)
  refine lv_iconst (v := 0) hx hb dX11_firstWay_6 (by decide) ?_
  refine lv_istore (lv' := [(7, .int 0), (5, .long 0), (4, .int 0), (0, .ref (ad 0)), (1, .int a1), (2, .int a2), (3, .int a3)]) hx hb dX11_firstWay_7 hl (by decide) rfl (fun ls hl => ?_)
  have loop9 : ∀ (K : St → Int32 → Prop), (∀ (t19 : St) (v18 : Int32) (H : Heap) (locs : List Loc) (ls : Array Slot), K t19 v18 → va_P D vwCl (wM cy ad t19) H → va_D A (wM cy ad t19) → va_S A s.heap H locs → lv_has ls 10 [(4, .int v18)] → W p l e rm_X11_firstWay s m args below meth c H locs 0 0 Q (F0 m 94 ls [])) → ∀ (n : Nat) (t4 : St) (v1 : Int32) (v2 : Int64) (v3 : Int32) (H : Heap) (locs : List Loc) (ls : Array Slot), wp_X11_firstWay_L9 post K a1 a2 a3 n t4 v1 v2 v3 → va_P D vwCl (wM cy ad t4) H → va_D A (wM cy ad t4) → va_S A s.heap H locs → lv_has ls 10 [(0, .ref (ad 0)), (1, .int a1), (2, .int a2), (3, .int a3), (4, .int v1), (5, .long v2), (7, .int v3)] → W p l e rm_X11_firstWay s m args below meth c H locs 0 0 Q (F0 m 9 ls []) := by
    intro K hE9 n
    induction n with
    | zero => intro t4 v1 v2 v3 H locs ls h; exact h.elim
    | succ n ih9 =>
      intro t4 v1 v2 v3 H locs ls h hP hD hS hl
      rw [wp_X11_firstWay_L9] at h
      refine lv_iload hx hb dX11_firstWay_9 (lv_at hl 6 rfl) ?_
      refine lv_bipush (v := 24) hx hb dX11_firstWay_11 (by decide) ?_
      refine lv_icmp_ge (tgt := 94) hx hb dX11_firstWay_13 (by decide) (fun c5 => ?_) (fun c5 => ?_)
      · have h := h.1 c5
        exact hE9 _ _ _ _ _ h hP hD hS (lv_sub hl [4] rfl)
      · have h := h.2 c5
        refine lv_aload_n hx hb dX11_firstWay_16 rfl (lv_at hl 0 rfl) ?_
        refine lv_iload_n hx hb dX11_firstWay_17 rfl (lv_at hl 2 rfl) ?_
        refine lv_iconst (v := 0) hx hb dX11_firstWay_18 (by decide) ?_
        refine lv_iload hx hb dX11_firstWay_19 (lv_at hl 6 rfl) ?_
        refine callVV (rest := []) SF (c_X11_turnPoint l D cy tz ad t4 a2 0 v3 _ h) (cw_RX11_135 hts ⟨Nat.le_of_ble_eq_true rfl, Nat.le_of_ble_eq_true rfl⟩) rfl rfl (va_recv hK hP (ci := 10) (q0 := 0) rfl rfl) hK hZ hA hP hD hS rfl hl.1 rfl (Nat.le_of_ble_eq_true rfl) dX11_firstWay_21 ⟨Nat.zero_le _, Nat.zero_le _⟩ (fun t7 H locs h hP hD hS => ?_)
        refine lv_aload_n hx hb dX11_firstWay_24 rfl (lv_at hl 0 rfl) ?_
        refine va_get (D := D) (ci := 10) (v := .int (gI t7 1)) (C := RX11) (T := TX11) (N := 35) hx hb hts inlX11 hown hK hP 0 rfl rfl 1 (by decide) (hts _ w_14_3) (fun _ h9 => h9) rfl dX11_firstWay_25 ?_
        refine lv_i2l (v := (gI t7 1).toInt64) hx hb dX11_firstWay_28 rfl ?_
        refine lv_aload_n hx hb dX11_firstWay_29 rfl (lv_at hl 0 rfl) ?_
        refine va_get (D := D) (ci := 10) (v := .ref (ad 8)) (C := RX11) (T := TX11) (N := 35) hx hb hts inlX11 hown hK hP 0 rfl rfl 12 (by decide) (hts _ w_5_13) (fun _ h9 => h9) rfl dX11_firstWay_30 ?_
        refine lv_iload_n hx hb dX11_firstWay_33 rfl (lv_at hl 3 rfl) ?_
        refine va_iald (f := gA t7 12) (n := 8) hx hb hK hP 8 0 rfl rfl h.1 dX11_firstWay_34 ?_
        have h := h.2
        refine lv_aload_n hx hb dX11_firstWay_35 rfl (lv_at hl 0 rfl) ?_
        refine va_get (D := D) (ci := 10) (v := .ref (ad 8)) (C := RX11) (T := TX11) (N := 35) hx hb hts inlX11 hown hK hP 0 rfl rfl 12 (by decide) (hts _ w_5_13) (fun _ h9 => h9) rfl dX11_firstWay_36 ?_
        refine lv_iload_n hx hb dX11_firstWay_39 rfl (lv_at hl 1 rfl) ?_
        refine va_iald (f := gA t7 12) (n := 8) hx hb hK hP 8 0 rfl rfl h.1 dX11_firstWay_40 ?_
        have h := h.2
        refine lv_isub hx hb dX11_firstWay_41 ?_
        refine lv_i2l (v := ((gA t7 12 a3.toNatClampNeg) - (gA t7 12 a1.toNatClampNeg)).toInt64) hx hb dX11_firstWay_42 rfl ?_
        refine lv_lmul hx hb dX11_firstWay_43 ?_
        refine lv_aload_n hx hb dX11_firstWay_44 rfl (lv_at hl 0 rfl) ?_
        refine va_get (D := D) (ci := 10) (v := .int (gI t7 2)) (C := RX11) (T := TX11) (N := 35) hx hb hts inlX11 hown hK hP 0 rfl rfl 2 (by decide) (hts _ w_14_4) (fun _ h9 => h9) rfl dX11_firstWay_45 ?_
        refine lv_i2l (v := (gI t7 2).toInt64) hx hb dX11_firstWay_48 rfl ?_
        refine lv_aload_n hx hb dX11_firstWay_49 rfl (lv_at hl 0 rfl) ?_
        refine va_get (D := D) (ci := 10) (v := .ref (ad 9)) (C := RX11) (T := TX11) (N := 35) hx hb hts inlX11 hown hK hP 0 rfl rfl 13 (by decide) (hts _ w_5_14) (fun _ h9 => h9) rfl dX11_firstWay_50 ?_
        refine lv_iload_n hx hb dX11_firstWay_53 rfl (lv_at hl 3 rfl) ?_
        refine va_iald (f := gA t7 13) (n := 8) hx hb hK hP 9 0 rfl rfl h.1 dX11_firstWay_54 ?_
        have h := h.2
        refine lv_aload_n hx hb dX11_firstWay_55 rfl (lv_at hl 0 rfl) ?_
        refine va_get (D := D) (ci := 10) (v := .ref (ad 9)) (C := RX11) (T := TX11) (N := 35) hx hb hts inlX11 hown hK hP 0 rfl rfl 13 (by decide) (hts _ w_5_14) (fun _ h9 => h9) rfl dX11_firstWay_56 ?_
        refine lv_iload_n hx hb dX11_firstWay_59 rfl (lv_at hl 1 rfl) ?_
        refine va_iald (f := gA t7 13) (n := 8) hx hb hK hP 9 0 rfl rfl h.1 dX11_firstWay_60 ?_
        have h := h.2
        refine lv_isub hx hb dX11_firstWay_61 ?_
        refine lv_i2l (v := ((gA t7 13 a3.toNatClampNeg) - (gA t7 13 a1.toNatClampNeg)).toInt64) hx hb dX11_firstWay_62 rfl ?_
        refine lv_lmul hx hb dX11_firstWay_63 ?_
        refine lv_ladd hx hb dX11_firstWay_64 ?_
        refine lv_topl (fun x8 e9 => ?_)
        have h := h x8 e9
        refine lv_lstore (lv' := [(8, .long x8), (0, .ref (ad 0)), (1, .int a1), (2, .int a2), (3, .int a3), (4, .int v1), (5, .long v2), (7, .int v3)]) hx hb dX11_firstWay_65 hl (by decide) rfl (fun ls hl => ?_)
        refine lv_iload hx hb dX11_firstWay_67 (lv_at hl 7 rfl) ?_
        refine lv_if_eq (tgt := 80) hx hb dX11_firstWay_69 (by decide) (fun c10 => ?_) (fun c10 => ?_)
        · have h := h.1 c10
          refine lv_iload hx hb dX11_firstWay_80 (lv_at hl 7 rfl) ?_
          refine lv_istore (lv' := [(4, .int v3), (8, .long x8), (0, .ref (ad 0)), (1, .int a1), (2, .int a2), (3, .int a3), (5, .long v2), (7, .int v3)]) hx hb dX11_firstWay_82 hl (by decide) rfl (fun ls hl => ?_)
          refine lv_lload hx hb dX11_firstWay_84 (lv_at hl 1 rfl) ?_
          refine lv_lstore (lv' := [(5, .long x8), (4, .int v3), (8, .long x8), (0, .ref (ad 0)), (1, .int a1), (2, .int a2), (3, .int a3), (7, .int v3)]) hx hb dX11_firstWay_86 hl (by decide) rfl (fun ls hl => ?_)
          obtain ⟨x11, e12⟩ : ∃ z : Int32, z = v3 + 1 := ⟨_, rfl⟩
          have h := h x11 e12
          refine lv_iinc (v := x11) (lv' := [(7, .int x11), (5, .long x8), (4, .int v3), (8, .long x8), (0, .ref (ad 0)), (1, .int a1), (2, .int a2), (3, .int a3)]) hx hb dX11_firstWay_88 hl (k := 7) rfl (by rw [e12]; rfl) (by decide) rfl (fun ls hl => ?_)
          refine lv_goto (tgt := 9) hx hb dX11_firstWay_91 (by decide) ?_
          exact ih9 _ _ _ _ _ _ _ h hP hD hS (lv_sub hl [4, 5, 6, 7, 2, 1, 0] rfl)
        · have h := h.2 c10
          refine lv_lload hx hb dX11_firstWay_72 (lv_at hl 0 rfl) ?_
          refine lv_lload hx hb dX11_firstWay_74 (lv_at hl 6 rfl) ?_
          refine W.lcmp hx hb dX11_firstWay_76 ?_
          refine lv_if_le (tgt := 88) hx hb dX11_firstWay_77 (by decide) (fun c13 => ?_) (fun c13 => ?_)
          · have h := h.1 ((lg_cmp_le _ _).mp c13)
            obtain ⟨x14, e15⟩ : ∃ z : Int32, z = v3 + 1 := ⟨_, rfl⟩
            have h := h x14 e15
            refine lv_iinc (v := x14) (lv' := [(7, .int x14), (8, .long x8), (0, .ref (ad 0)), (1, .int a1), (2, .int a2), (3, .int a3), (4, .int v1), (5, .long v2)]) hx hb dX11_firstWay_88 hl (k := 7) rfl (by rw [e15]; rfl) (by decide) rfl (fun ls hl => ?_)
            refine lv_goto (tgt := 9) hx hb dX11_firstWay_91 (by decide) ?_
            exact ih9 _ _ _ _ _ _ _ h hP hD hS (lv_sub hl [2, 3, 4, 5, 6, 7, 0] rfl)
          · have h := h.2 (fun z => c13 ((lg_cmp_le _ _).mpr z))
            refine lv_iload hx hb dX11_firstWay_80 (lv_at hl 7 rfl) ?_
            refine lv_istore (lv' := [(4, .int v3), (8, .long x8), (0, .ref (ad 0)), (1, .int a1), (2, .int a2), (3, .int a3), (5, .long v2), (7, .int v3)]) hx hb dX11_firstWay_82 hl (by decide) rfl (fun ls hl => ?_)
            refine lv_lload hx hb dX11_firstWay_84 (lv_at hl 1 rfl) ?_
            refine lv_lstore (lv' := [(5, .long x8), (4, .int v3), (8, .long x8), (0, .ref (ad 0)), (1, .int a1), (2, .int a2), (3, .int a3), (7, .int v3)]) hx hb dX11_firstWay_86 hl (by decide) rfl (fun ls hl => ?_)
            obtain ⟨x16, e17⟩ : ∃ z : Int32, z = v3 + 1 := ⟨_, rfl⟩
            have h := h x16 e17
            refine lv_iinc (v := x16) (lv' := [(7, .int x16), (5, .long x8), (4, .int v3), (8, .long x8), (0, .ref (ad 0)), (1, .int a1), (2, .int a2), (3, .int a3)]) hx hb dX11_firstWay_88 hl (k := 7) rfl (by rw [e17]; rfl) (by decide) rfl (fun ls hl => ?_)
            refine lv_goto (tgt := 9) hx hb dX11_firstWay_91 (by decide) ?_
            exact ih9 _ _ _ _ _ _ _ h hP hD hS (lv_sub hl [4, 5, 6, 7, 2, 1, 0] rfl)
  obtain ⟨n, h⟩ := h
  refine loop9 _ ?_ n _ _ _ _ _ _ _ h hP hD hS (lv_sub hl [3, 4, 5, 6, 2, 1, 0] rfl)
  intro t19 v18 H locs ls h hP hD hS hl
  refine lv_iload hx hb dX11_firstWay_94 (lv_at hl 0 rfl) ?_
  exact hret _ _ _ _ _ _ rfl h hP hD hS dX11_firstWay_96
-- X11_nextWay
def rm_X11_nextWay : Room := { frames := 3, cells := 0, slots := 0, locals := 73 }
abbrev ws_X11_nextWay : List Cond := .code yX11_nextWay cX11_nextWay 7 (some .int) :: wsL_law
def wp_X11_nextWay_L13 (post : Int32 → St → Prop) (K : St → Int32 → Prop) (a2 : Int32) : Nat → St → Int32 → Int32 → Int32 → Prop
  | 0, _, _, _, _ => False
  | n13 + 1, t6, v3, v4, v5 => ((60 < v5) → (K t6 v3)) ∧ ((¬ 60 < v5) → (wp_X11_farFrom t6 a2 v5 (fun r8 t9 => ((v4 ≤ r8) → (∀ x11 : Int32, x11 = v5 + 1 → (wp_X11_nextWay_L13 post K a2 n13 t9 v3 v4 x11))) ∧ ((¬ v4 ≤ r8) → (∀ x13 : Int32, x13 = v5 + 1 → (wp_X11_nextWay_L13 post K a2 n13 t9 v5 r8 x13))))))
def wp_X11_nextWay (st : St) (a1 : Int32) (a2 : Int32) (post : Int32 → St → Prop) : Prop := wp_X11_farFrom st a2 1 (fun r1 t2 => ∃ m13 : Nat, wp_X11_nextWay_L13 post (fun t16 v15 => wp_X11_layOne t16 a2 v15 (fun t18 => wp_X11_ballY t18 v15 (fun r19 => wp_X11_ballX t18 v15 (fun r21 => ∀ x23 : Int64, x23 = (((gI t18 1).toInt64 * r19.toInt64) - ((gI t18 2).toInt64 * r21.toInt64)) → (((0 ≤ x23) → (post ((a1 + 23) - (a1 + 23) / 24 * 24) t18)) ∧ ((¬ 0 ≤ x23) → (post ((a1 + 1) - (a1 + 1) / 24 * 24) t18))))))) a2 m13 t2 1 r1 2)
set_option maxHeartbeats 4000000 in
set_option maxRecDepth 100000 in
theorem c_X11_nextWay (l : Launch) (D : va_G) (cy : Nat → ClassId) (tz : Nat → Nat) (ad : Nat → Nat) (st : St) (a1 : Int32) (a2 : Int32) (post : Int32 → St → Prop) (h : wp_X11_nextWay st a1 a2 post) : CtI l D cy tz yX11_nextWay ws_X11_nextWay rm_X11_nextWay [.ref (ad 0), .int a1, .int a2] (wM cy ad st) (wM cy ad) post := by
  refine CtI.of (own := RX11) (nm := "nextWay") (lv := [(0, .ref (ad 0)), (1, .int a1), (2, .int a2)]) (plainFor_of_name (by decide)) rfl rfl (Nat.le_of_ble_eq_true rfl) rfl ?_
  intro p e s m args below meth c A Q ls B hP hD hS hl hret
  obtain ⟨hx, hb, hml, hown, hts, hK, hZ, hA, hnm⟩ := B
  have SF : CallFix p m c cX11_nextWay 7 s args wsL_law RX11 := ⟨hx, hb, hml, hown, hts⟩
  unfold wp_X11_nextWay at h
  refine lv_iconst (v := 1) hx hb dX11_nextWay_0 (by decide) ?_
  refine lv_istore_n (lv' := [(3, .int 1), (0, .ref (ad 0)), (1, .int a1), (2, .int a2)]) hx hb dX11_nextWay_1 rfl hl (by decide) rfl (fun ls hl => ?_)
  refine lv_aload_n hx hb dX11_nextWay_2 rfl (lv_at hl 1 rfl) ?_
  refine lv_iload_n hx hb dX11_nextWay_3 rfl (lv_at hl 3 rfl) ?_
  refine lv_iconst (v := 1) hx hb dX11_nextWay_4 (by decide) ?_
  refine callVI (rest := []) SF (c_X11_farFrom l D cy tz ad st a2 1 _ h) (cw_RX11_187 hts ⟨Nat.le_of_ble_eq_true rfl, Nat.le_of_ble_eq_true rfl⟩) rfl rfl (va_recv hK hP (ci := 10) (q0 := 0) rfl rfl) hK hZ hA hP hD hS rfl hl.1 rfl (Nat.le_of_ble_eq_true rfl) dX11_nextWay_5 ⟨Nat.zero_le _, Nat.zero_le _⟩ (fun r1 t2 H locs h hP hD hS => ?_)
  refine lv_istore (lv' := [(4, .int r1), (3, .int 1), (0, .ref (ad 0)), (1, .int a1), (2, .int a2)]) hx hb dX11_nextWay_8 hl (by decide) rfl (fun ls hl => ?_)
  refine lv_iconst (v := 2) hx hb dX11_nextWay_10 (by decide) ?_
  refine lv_istore (lv' := [(5, .int 2), (4, .int r1), (3, .int 1), (0, .ref (ad 0)), (1, .int a1), (2, .int a2)]) hx hb dX11_nextWay_11 hl (by decide) rfl (fun ls hl => ?_)
  have loop13 : ∀ (K : St → Int32 → Prop), (∀ (t16 : St) (v15 : Int32) (H : Heap) (locs : List Loc) (ls : Array Slot), K t16 v15 → va_P D vwCl (wM cy ad t16) H → va_D A (wM cy ad t16) → va_S A s.heap H locs → lv_has ls 7 [(0, .ref (ad 0)), (1, .int a1), (2, .int a2), (3, .int v15)] → W p l e rm_X11_nextWay s m args below meth c H locs 0 0 Q (F0 m 49 ls [])) → ∀ (n : Nat) (t6 : St) (v3 : Int32) (v4 : Int32) (v5 : Int32) (H : Heap) (locs : List Loc) (ls : Array Slot), wp_X11_nextWay_L13 post K a2 n t6 v3 v4 v5 → va_P D vwCl (wM cy ad t6) H → va_D A (wM cy ad t6) → va_S A s.heap H locs → lv_has ls 7 [(0, .ref (ad 0)), (1, .int a1), (2, .int a2), (3, .int v3), (4, .int v4), (5, .int v5)] → W p l e rm_X11_nextWay s m args below meth c H locs 0 0 Q (F0 m 13 ls []) := by
    intro K hE13 n
    induction n with
    | zero => intro t6 v3 v4 v5 H locs ls h; exact h.elim
    | succ n ih13 =>
      intro t6 v3 v4 v5 H locs ls h hP hD hS hl
      rw [wp_X11_nextWay_L13] at h
      refine lv_iload hx hb dX11_nextWay_13 (lv_at hl 5 rfl) ?_
      refine lv_bipush (v := 60) hx hb dX11_nextWay_15 (by decide) ?_
      refine lv_icmp_gt (tgt := 49) hx hb dX11_nextWay_17 (by decide) (fun c7 => ?_) (fun c7 => ?_)
      · have h := h.1 c7
        exact hE13 _ _ _ _ _ h hP hD hS (lv_sub hl [0, 1, 2, 3] rfl)
      · have h := h.2 c7
        refine lv_aload_n hx hb dX11_nextWay_20 rfl (lv_at hl 0 rfl) ?_
        refine lv_iload_n hx hb dX11_nextWay_21 rfl (lv_at hl 2 rfl) ?_
        refine lv_iload hx hb dX11_nextWay_22 (lv_at hl 5 rfl) ?_
        refine callVI (rest := []) SF (c_X11_farFrom l D cy tz ad t6 a2 v5 _ h) (cw_RX11_187 hts ⟨Nat.le_of_ble_eq_true rfl, Nat.le_of_ble_eq_true rfl⟩) rfl rfl (va_recv hK hP (ci := 10) (q0 := 0) rfl rfl) hK hZ hA hP hD hS rfl hl.1 rfl (Nat.le_of_ble_eq_true rfl) dX11_nextWay_24 ⟨Nat.zero_le _, Nat.zero_le _⟩ (fun r8 t9 H locs h hP hD hS => ?_)
        refine lv_istore (lv' := [(6, .int r8), (0, .ref (ad 0)), (1, .int a1), (2, .int a2), (3, .int v3), (4, .int v4), (5, .int v5)]) hx hb dX11_nextWay_27 hl (by decide) rfl (fun ls hl => ?_)
        refine lv_iload hx hb dX11_nextWay_29 (lv_at hl 0 rfl) ?_
        refine lv_iload hx hb dX11_nextWay_31 (lv_at hl 5 rfl) ?_
        refine lv_icmp_ge (tgt := 43) hx hb dX11_nextWay_33 (by decide) (fun c10 => ?_) (fun c10 => ?_)
        · have h := h.1 c10
          obtain ⟨x11, e12⟩ : ∃ z : Int32, z = v5 + 1 := ⟨_, rfl⟩
          have h := h x11 e12
          refine lv_iinc (v := x11) (lv' := [(5, .int x11), (6, .int r8), (0, .ref (ad 0)), (1, .int a1), (2, .int a2), (3, .int v3), (4, .int v4)]) hx hb dX11_nextWay_43 hl (k := 6) rfl (by rw [e12]; rfl) (by decide) rfl (fun ls hl => ?_)
          refine lv_goto (tgt := 13) hx hb dX11_nextWay_46 (by decide) ?_
          exact ih13 _ _ _ _ _ _ _ h hP hD hS (lv_sub hl [2, 3, 4, 5, 6, 0] rfl)
        · have h := h.2 c10
          refine lv_iload hx hb dX11_nextWay_36 (lv_at hl 6 rfl) ?_
          refine lv_istore_n (lv' := [(3, .int v5), (6, .int r8), (0, .ref (ad 0)), (1, .int a1), (2, .int a2), (4, .int v4), (5, .int v5)]) hx hb dX11_nextWay_38 rfl hl (by decide) rfl (fun ls hl => ?_)
          refine lv_iload hx hb dX11_nextWay_39 (lv_at hl 1 rfl) ?_
          refine lv_istore (lv' := [(4, .int r8), (3, .int v5), (6, .int r8), (0, .ref (ad 0)), (1, .int a1), (2, .int a2), (5, .int v5)]) hx hb dX11_nextWay_41 hl (by decide) rfl (fun ls hl => ?_)
          obtain ⟨x13, e14⟩ : ∃ z : Int32, z = v5 + 1 := ⟨_, rfl⟩
          have h := h x13 e14
          refine lv_iinc (v := x13) (lv' := [(5, .int x13), (4, .int r8), (3, .int v5), (6, .int r8), (0, .ref (ad 0)), (1, .int a1), (2, .int a2)]) hx hb dX11_nextWay_43 hl (k := 6) rfl (by rw [e14]; rfl) (by decide) rfl (fun ls hl => ?_)
          refine lv_goto (tgt := 13) hx hb dX11_nextWay_46 (by decide) ?_
          exact ih13 _ _ _ _ _ _ _ h hP hD hS (lv_sub hl [4, 5, 6, 2, 1, 0] rfl)
  obtain ⟨n, h⟩ := h
  refine loop13 _ ?_ n _ _ _ _ _ _ _ h hP hD hS (lv_sub hl [3, 4, 5, 2, 1, 0] rfl)
  intro t16 v15 H locs ls h hP hD hS hl
  refine lv_aload_n hx hb dX11_nextWay_49 rfl (lv_at hl 0 rfl) ?_
  refine lv_iload_n hx hb dX11_nextWay_50 rfl (lv_at hl 2 rfl) ?_
  refine lv_iload_n hx hb dX11_nextWay_51 rfl (lv_at hl 3 rfl) ?_
  refine callVV (rest := []) SF (c_X11_layOne l D cy tz ad t16 a2 v15 _ h) (cw_RX11_149 hts ⟨Nat.le_of_ble_eq_true rfl, Nat.le_of_ble_eq_true rfl⟩) rfl rfl (va_recv hK hP (ci := 10) (q0 := 0) rfl rfl) hK hZ hA hP hD hS rfl hl.1 rfl (Nat.le_of_ble_eq_true rfl) dX11_nextWay_52 ⟨Nat.zero_le _, Nat.zero_le _⟩ (fun t18 H locs h hP hD hS => ?_)
  refine lv_aload_n hx hb dX11_nextWay_55 rfl (lv_at hl 0 rfl) ?_
  refine va_get (D := D) (ci := 10) (v := .int (gI t18 1)) (C := RX11) (T := TX11) (N := 35) hx hb hts inlX11 hown hK hP 0 rfl rfl 1 (by decide) (hts _ w_14_3) (fun _ h9 => h9) rfl dX11_nextWay_56 ?_
  refine lv_i2l (v := (gI t18 1).toInt64) hx hb dX11_nextWay_59 rfl ?_
  refine lv_aload_n hx hb dX11_nextWay_60 rfl (lv_at hl 0 rfl) ?_
  refine lv_iload_n hx hb dX11_nextWay_61 rfl (lv_at hl 3 rfl) ?_
  refine callVIr (rest := [.long ((gI t18 1).toInt64)]) SF (c_X11_ballY l D cy tz ad t18 v15 _ h) (cw_RX11_168 hts ⟨Nat.le_of_ble_eq_true rfl, Nat.le_of_ble_eq_true rfl⟩) rfl rfl (va_recv hK hP (ci := 10) (q0 := 0) rfl rfl) hK hZ hA hP hD hS rfl hl.1 rfl (Nat.le_of_ble_eq_true rfl) dX11_nextWay_62 ⟨Nat.zero_le _, Nat.zero_le _⟩ (fun r19 H locs h hP hD hS => ?_)
  refine lv_i2l (v := r19.toInt64) hx hb dX11_nextWay_65 rfl ?_
  refine lv_lmul hx hb dX11_nextWay_66 ?_
  refine lv_aload_n hx hb dX11_nextWay_67 rfl (lv_at hl 0 rfl) ?_
  refine va_get (D := D) (ci := 10) (v := .int (gI t18 2)) (C := RX11) (T := TX11) (N := 35) hx hb hts inlX11 hown hK hP 0 rfl rfl 2 (by decide) (hts _ w_14_4) (fun _ h9 => h9) rfl dX11_nextWay_68 ?_
  refine lv_i2l (v := (gI t18 2).toInt64) hx hb dX11_nextWay_71 rfl ?_
  refine lv_aload_n hx hb dX11_nextWay_72 rfl (lv_at hl 0 rfl) ?_
  refine lv_iload_n hx hb dX11_nextWay_73 rfl (lv_at hl 3 rfl) ?_
  refine callVIr (rest := [.long ((gI t18 2).toInt64), .long ((gI t18 1).toInt64 * r19.toInt64)]) SF (c_X11_ballX l D cy tz ad t18 v15 _ h) (cw_RX11_165 hts ⟨Nat.le_of_ble_eq_true rfl, Nat.le_of_ble_eq_true rfl⟩) rfl rfl (va_recv hK hP (ci := 10) (q0 := 0) rfl rfl) hK hZ hA hP hD hS rfl hl.1 rfl (Nat.le_of_ble_eq_true rfl) dX11_nextWay_74 ⟨Nat.zero_le _, Nat.zero_le _⟩ (fun r21 H locs h hP hD hS => ?_)
  refine lv_i2l (v := r21.toInt64) hx hb dX11_nextWay_77 rfl ?_
  refine lv_lmul hx hb dX11_nextWay_78 ?_
  refine lv_lsub hx hb dX11_nextWay_79 ?_
  refine lv_topl (fun x23 e24 => ?_)
  have h := h x23 e24
  refine lv_lstore (lv' := [(5, .long x23), (0, .ref (ad 0)), (1, .int a1), (2, .int a2), (3, .int v15)]) hx hb dX11_nextWay_80 hl (by decide) rfl (fun ls hl => ?_)
  refine lv_iload_n hx hb dX11_nextWay_82 rfl (lv_at hl 2 rfl) ?_
  refine lv_lload hx hb dX11_nextWay_83 (lv_at hl 0 rfl) ?_
  refine lv_lconst (v := 0) hx hb dX11_nextWay_85 (by decide) ?_
  refine W.lcmp hx hb dX11_nextWay_86 ?_
  refine lv_if_ge (tgt := 94) hx hb dX11_nextWay_87 (by decide) (fun c25 => ?_) (fun c25 => ?_)
  · have h := h.1 ((lg_cmp_ge _ _).mp c25)
    refine lv_bipush (v := 23) hx hb dX11_nextWay_94 (by decide) ?_
    refine lv_iadd hx hb dX11_nextWay_96 ?_
    refine lv_bipush (v := 24) hx hb dX11_nextWay_97 (by decide) ?_
    refine lv_irem hx hb dX11_nextWay_99 (by decide) ?_
    exact hret _ _ _ _ _ _ rfl h hP hD hS dX11_nextWay_100
  · have h := h.2 (fun z => c25 ((lg_cmp_ge _ _).mpr z))
    refine lv_iconst (v := 1) hx hb dX11_nextWay_90 (by decide) ?_
    refine lv_goto (tgt := 96) hx hb dX11_nextWay_91 (by decide) ?_
    refine lv_iadd hx hb dX11_nextWay_96 ?_
    refine lv_bipush (v := 24) hx hb dX11_nextWay_97 (by decide) ?_
    refine lv_irem hx hb dX11_nextWay_99 (by decide) ?_
    exact hret _ _ _ _ _ _ rfl h hP hD hS dX11_nextWay_100
-- X11_triesFrom
def rm_X11_triesFrom : Room := { frames := 4, cells := 0, slots := 0, locals := 99 }
abbrev ws_X11_triesFrom : List Cond := .code yX11_triesFrom cX11_triesFrom 6 (some .int) :: wsL_law
theorem cw_RX11_255 {R : Room} {s : State} {args : Array Value} (hts : ∀ w ∈ wsL_law, w.before args s = true) (hR : rm_X11_nextWay.frames + 1 ≤ R.frames ∧ 8 + (7 + 11) + rm_X11_nextWay.locals ≤ R.locals) : CallW R s args RX11 RX11 255 yX11_nextWay cX11_nextWay 7 (some .int) ws_X11_nextWay rm_X11_nextWay rm_X11_nextWay.cells rm_X11_nextWay.slots 2 := cwV 2 hts (gdV w_35_8 w_35_9 w_35_10 w_1_5 w_35_11) rfl rfl rfl (by decide +kernel) hR
def wp_X11_triesFrom_L13 (post : Int32 → St → Prop) (K : St → Prop) (a1 : Int32) (a2 : Int32) (a3 : Int32) : Nat → St → Int32 → Prop
  | 0, _, _ => False
  | n13 + 1, t4, v3 => ((24 < v3) → (K t4)) ∧ ((¬ 24 < v3) → (wp_X11_caughtOf t4 a1 a2 (gI t4 30) a3 (fun r6 t7 => ((r6 < 0) → (wp_X11_nextWay t7 (gI t7 30) a3 (fun r9 t10 => ∀ x11 : Int32, x11 = v3 + 1 → (wp_X11_triesFrom_L13 post K a1 a2 a3 n13 (sI t10 30 r9) x11)))) ∧ ((¬ r6 < 0) → (post v3 t7)))))
def wp_X11_triesFrom (st : St) (a1 : Int32) (a2 : Int32) (a3 : Int32) (a4 : Int32) (post : Int32 → St → Prop) : Prop := wp_X11_layTurns st (fun t2 => ∃ m13 : Nat, wp_X11_triesFrom_L13 post (fun t13 => post (-6) t13) a1 a2 a3 m13 (sI t2 30 a4) 1)
set_option maxHeartbeats 4000000 in
set_option maxRecDepth 100000 in
theorem c_X11_triesFrom (l : Launch) (D : va_G) (cy : Nat → ClassId) (tz : Nat → Nat) (ad : Nat → Nat) (st : St) (a1 : Int32) (a2 : Int32) (a3 : Int32) (a4 : Int32) (post : Int32 → St → Prop) (h : wp_X11_triesFrom st a1 a2 a3 a4 post) : CtI l D cy tz yX11_triesFrom ws_X11_triesFrom rm_X11_triesFrom [.ref (ad 0), .int a1, .int a2, .int a3, .int a4] (wM cy ad st) (wM cy ad) post := by
  refine CtI.of (own := RX11) (nm := "triesFrom") (lv := [(0, .ref (ad 0)), (1, .int a1), (2, .int a2), (3, .int a3), (4, .int a4)]) (plainFor_of_name (by decide)) rfl rfl (Nat.le_of_ble_eq_true rfl) rfl ?_
  intro p e s m args below meth c A Q ls B hP hD hS hl hret
  obtain ⟨hx, hb, hml, hown, hts, hK, hZ, hA, hnm⟩ := B
  have SF : CallFix p m c cX11_triesFrom 6 s args wsL_law RX11 := ⟨hx, hb, hml, hown, hts⟩
  unfold wp_X11_triesFrom at h
  refine lv_aload_n hx hb dX11_triesFrom_0 rfl (lv_at hl 0 rfl) ?_
  refine callVV (rest := []) SF (c_X11_layTurns l D cy tz ad st _ h) (cw_RX11_124 hts ⟨Nat.le_of_ble_eq_true rfl, Nat.le_of_ble_eq_true rfl⟩) rfl rfl (va_recv hK hP (ci := 10) (q0 := 0) rfl rfl) hK hZ hA hP hD hS rfl hl.1 rfl (Nat.le_of_ble_eq_true rfl) dX11_triesFrom_1 ⟨Nat.zero_le _, Nat.zero_le _⟩ (fun t2 H locs h hP hD hS => ?_)
  refine lv_aload_n hx hb dX11_triesFrom_4 rfl (lv_at hl 0 rfl) ?_
  refine lv_iload hx hb dX11_triesFrom_5 (lv_at hl 4 rfl) ?_
  refine va_put (D := D) (ci := 10) (v := .int a4) (ty := .int) (C := RX11) (T := TX11) (N := 35) hx hb hts inlX11 tyX11 tyX11_ok nmX11 hown hK hP hD hS 0 rfl rfl 30 (by decide) (hts _ w_34_19) (fun _ h9 => h9) rfl (by decide +kernel) rfl rfl (Nat.le_of_ble_eq_true rfl) dX11_triesFrom_7 (fun H locs hP hD hS => ?_)
  have hP : va_P D vwCl (wM cy ad (sI t2 30 a4)) H := hP
  have hD : va_D A (wM cy ad (sI t2 30 a4)) := hD
  refine lv_iconst (v := 1) hx hb dX11_triesFrom_10 (by decide) ?_
  refine lv_istore (lv' := [(5, .int 1), (0, .ref (ad 0)), (1, .int a1), (2, .int a2), (3, .int a3), (4, .int a4)]) hx hb dX11_triesFrom_11 hl (by decide) rfl (fun ls hl => ?_)
  have loop13 : ∀ (K : St → Prop), (∀ (t13 : St) (H : Heap) (locs : List Loc) (ls : Array Slot), K t13 → va_P D vwCl (wM cy ad t13) H → va_D A (wM cy ad t13) → va_S A s.heap H locs → lv_has ls 6 [] → W p l e rm_X11_triesFrom s m args below meth c H locs 0 0 Q (F0 m 56 ls [])) → ∀ (n : Nat) (t4 : St) (v3 : Int32) (H : Heap) (locs : List Loc) (ls : Array Slot), wp_X11_triesFrom_L13 post K a1 a2 a3 n t4 v3 → va_P D vwCl (wM cy ad t4) H → va_D A (wM cy ad t4) → va_S A s.heap H locs → lv_has ls 6 [(0, .ref (ad 0)), (1, .int a1), (2, .int a2), (3, .int a3), (5, .int v3)] → W p l e rm_X11_triesFrom s m args below meth c H locs 0 0 Q (F0 m 13 ls []) := by
    intro K hE13 n
    induction n with
    | zero => intro t4 v3 H locs ls h; exact h.elim
    | succ n ih13 =>
      intro t4 v3 H locs ls h hP hD hS hl
      rw [wp_X11_triesFrom_L13] at h
      refine lv_iload hx hb dX11_triesFrom_13 (lv_at hl 4 rfl) ?_
      refine lv_bipush (v := 24) hx hb dX11_triesFrom_15 (by decide) ?_
      refine lv_icmp_gt (tgt := 56) hx hb dX11_triesFrom_17 (by decide) (fun c5 => ?_) (fun c5 => ?_)
      · have h := h.1 c5
        exact hE13 _ _ _ _ h hP hD hS (lv_sub hl [] rfl)
      · have h := h.2 c5
        refine lv_aload_n hx hb dX11_triesFrom_20 rfl (lv_at hl 0 rfl) ?_
        refine lv_iload_n hx hb dX11_triesFrom_21 rfl (lv_at hl 1 rfl) ?_
        refine lv_iload_n hx hb dX11_triesFrom_22 rfl (lv_at hl 2 rfl) ?_
        refine lv_aload_n hx hb dX11_triesFrom_23 rfl (lv_at hl 0 rfl) ?_
        refine va_get (D := D) (ci := 10) (v := .int (gI t4 30)) (C := RX11) (T := TX11) (N := 35) hx hb hts inlX11 hown hK hP 0 rfl rfl 30 (by decide) (hts _ w_34_19) (fun _ h9 => h9) rfl dX11_triesFrom_24 ?_
        refine lv_iload_n hx hb dX11_triesFrom_27 rfl (lv_at hl 3 rfl) ?_
        refine callVI (rest := []) SF (c_X11_caughtOf l D cy tz ad t4 a1 a2 (gI t4 30) a3 _ h) (cw_RX11_191 hts ⟨Nat.le_of_ble_eq_true rfl, Nat.le_of_ble_eq_true rfl⟩) rfl rfl (va_recv hK hP (ci := 10) (q0 := 0) rfl rfl) hK hZ hA hP hD hS rfl hl.1 rfl (Nat.le_of_ble_eq_true rfl) dX11_triesFrom_28 ⟨Nat.zero_le _, Nat.zero_le _⟩ (fun r6 t7 H locs h hP hD hS => ?_)
        refine lv_if_lt (tgt := 37) hx hb dX11_triesFrom_31 (by decide) (fun c8 => ?_) (fun c8 => ?_)
        · have h := h.1 c8
          refine lv_aload_n hx hb dX11_triesFrom_37 rfl (lv_at hl 0 rfl) ?_
          refine lv_aload_n hx hb dX11_triesFrom_38 rfl (lv_at hl 0 rfl) ?_
          refine lv_aload_n hx hb dX11_triesFrom_39 rfl (lv_at hl 0 rfl) ?_
          refine va_get (D := D) (ci := 10) (v := .int (gI t7 30)) (C := RX11) (T := TX11) (N := 35) hx hb hts inlX11 hown hK hP 0 rfl rfl 30 (by decide) (hts _ w_34_19) (fun _ h9 => h9) rfl dX11_triesFrom_40 ?_
          refine lv_iload_n hx hb dX11_triesFrom_43 rfl (lv_at hl 3 rfl) ?_
          refine callVI (rest := [.ref (ad 0)]) SF (c_X11_nextWay l D cy tz ad t7 (gI t7 30) a3 _ h) (cw_RX11_255 hts ⟨Nat.le_of_ble_eq_true rfl, Nat.le_of_ble_eq_true rfl⟩) rfl rfl (va_recv hK hP (ci := 10) (q0 := 0) rfl rfl) hK hZ hA hP hD hS rfl hl.1 rfl (Nat.le_of_ble_eq_true rfl) dX11_triesFrom_44 ⟨Nat.zero_le _, Nat.zero_le _⟩ (fun r9 t10 H locs h hP hD hS => ?_)
          refine va_put (D := D) (ci := 10) (v := .int r9) (ty := .int) (C := RX11) (T := TX11) (N := 35) hx hb hts inlX11 tyX11 tyX11_ok nmX11 hown hK hP hD hS 0 rfl rfl 30 (by decide) (hts _ w_34_19) (fun _ h9 => h9) rfl (by decide +kernel) rfl rfl (Nat.le_of_ble_eq_true rfl) dX11_triesFrom_47 (fun H locs hP hD hS => ?_)
          have hP : va_P D vwCl (wM cy ad (sI t10 30 r9)) H := hP
          have hD : va_D A (wM cy ad (sI t10 30 r9)) := hD
          obtain ⟨x11, e12⟩ : ∃ z : Int32, z = v3 + 1 := ⟨_, rfl⟩
          have h := h x11 e12
          refine lv_iinc (v := x11) (lv' := [(5, .int x11), (0, .ref (ad 0)), (1, .int a1), (2, .int a2), (3, .int a3)]) hx hb dX11_triesFrom_50 hl (k := 4) rfl (by rw [e12]; rfl) (by decide) rfl (fun ls hl => ?_)
          refine lv_goto (tgt := 13) hx hb dX11_triesFrom_53 (by decide) ?_
          exact ih13 _ _ _ _ _ h hP hD hS (lv_sub hl [1, 2, 3, 4, 0] rfl)
        · have h := h.2 c8
          refine lv_iload hx hb dX11_triesFrom_34 (lv_at hl 4 rfl) ?_
          exact hret _ _ _ _ _ _ rfl h hP hD hS dX11_triesFrom_36
  obtain ⟨n, h⟩ := h
  refine loop13 _ ?_ n _ _ _ _ _ h hP hD hS (lv_sub hl [1, 2, 3, 4, 0] rfl)
  intro t13 H locs ls h hP hD hS hl
  refine lv_bipush (v := (-6)) hx hb dX11_triesFrom_56 (by decide) ?_
  exact hret _ _ _ _ _ _ rfl h hP hD hS dX11_triesFrom_58
-- X11_areTwo
def rm_X11_areTwo : Room := { frames := 2, cells := 0, slots := 0, locals := 46 }
abbrev ws_X11_areTwo : List Cond := .code yX11_areTwo cX11_areTwo 3 (some .boolean) :: wsL_law
def wp_X11_areTwo (st : St) (a1 : Int32) (a2 : Int32) (post : Int32 → Prop) : Prop := wp_X11_isOne st a1 (fun r1 => ((r1 = 0) → (post 0)) ∧ ((¬ r1 = 0) → (wp_X11_isOne st a2 (fun r4 => ((r4 = 0) → (post 0)) ∧ ((¬ r4 = 0) → (((a1 = a2) → (post 0)) ∧ ((¬ a1 = a2) → (post 1))))))))
set_option maxHeartbeats 4000000 in
set_option maxRecDepth 100000 in
theorem c_X11_areTwo (l : Launch) (D : va_G) (cy : Nat → ClassId) (tz : Nat → Nat) (ad : Nat → Nat) (st : St) (a1 : Int32) (a2 : Int32) (post : Int32 → Prop) (h : wp_X11_areTwo st a1 a2 post) : CtI l D cy tz yX11_areTwo ws_X11_areTwo rm_X11_areTwo [.ref (ad 0), .int a1, .int a2] (wM cy ad st) (fun _ : Unit => wM cy ad st) (fun r _ => post r) := by
  refine CtI.of (own := RX11) (nm := "areTwo") (lv := [(0, .ref (ad 0)), (1, .int a1), (2, .int a2)]) (plainFor_of_name (by decide)) rfl rfl (Nat.le_of_ble_eq_true rfl) rfl ?_
  intro p e s m args below meth c A Q ls B hP hD hS hl hret
  obtain ⟨hx, hb, hml, hown, hts, hK, hZ, hA, hnm⟩ := B
  have SF : CallFix p m c cX11_areTwo 3 s args wsL_law RX11 := ⟨hx, hb, hml, hown, hts⟩
  unfold wp_X11_areTwo at h
  refine lv_aload_n hx hb dX11_areTwo_0 rfl (lv_at hl 0 rfl) ?_
  refine lv_iload_n hx hb dX11_areTwo_1 rfl (lv_at hl 1 rfl) ?_
  refine callVIr (rest := []) SF (c_X11_isOne l D cy tz ad st a1 _ h) (cw_RX11_142 hts ⟨Nat.le_of_ble_eq_true rfl, Nat.le_of_ble_eq_true rfl⟩) rfl rfl (va_recv hK hP (ci := 10) (q0 := 0) rfl rfl) hK hZ hA hP hD hS rfl hl.1 rfl (Nat.le_of_ble_eq_true rfl) dX11_areTwo_2 ⟨Nat.zero_le _, Nat.zero_le _⟩ (fun r1 H locs h hP hD hS => ?_)
  refine lv_if_eq (tgt := 25) hx hb dX11_areTwo_5 (by decide) (fun c3 => ?_) (fun c3 => ?_)
  · have h := h.1 c3
    refine lv_iconst (v := 0) hx hb dX11_areTwo_25 (by decide) ?_
    exact hret _ () _ _ _ _ rfl h hP hD hS dX11_areTwo_26
  · have h := h.2 c3
    refine lv_aload_n hx hb dX11_areTwo_8 rfl (lv_at hl 0 rfl) ?_
    refine lv_iload_n hx hb dX11_areTwo_9 rfl (lv_at hl 2 rfl) ?_
    refine callVIr (rest := []) SF (c_X11_isOne l D cy tz ad st a2 _ h) (cw_RX11_142 hts ⟨Nat.le_of_ble_eq_true rfl, Nat.le_of_ble_eq_true rfl⟩) rfl rfl (va_recv hK hP (ci := 10) (q0 := 0) rfl rfl) hK hZ hA hP hD hS rfl hl.1 rfl (Nat.le_of_ble_eq_true rfl) dX11_areTwo_10 ⟨Nat.zero_le _, Nat.zero_le _⟩ (fun r4 H locs h hP hD hS => ?_)
    refine lv_if_eq (tgt := 25) hx hb dX11_areTwo_13 (by decide) (fun c6 => ?_) (fun c6 => ?_)
    · have h := h.1 c6
      refine lv_iconst (v := 0) hx hb dX11_areTwo_25 (by decide) ?_
      exact hret _ () _ _ _ _ rfl h hP hD hS dX11_areTwo_26
    · have h := h.2 c6
      refine lv_iload_n hx hb dX11_areTwo_16 rfl (lv_at hl 1 rfl) ?_
      refine lv_iload_n hx hb dX11_areTwo_17 rfl (lv_at hl 2 rfl) ?_
      refine lv_icmp_eq (tgt := 25) hx hb dX11_areTwo_18 (by decide) (fun c7 => ?_) (fun c7 => ?_)
      · have h := h.1 c7
        refine lv_iconst (v := 0) hx hb dX11_areTwo_25 (by decide) ?_
        exact hret _ () _ _ _ _ rfl h hP hD hS dX11_areTwo_26
      · have h := h.2 c7
        refine lv_iconst (v := 1) hx hb dX11_areTwo_21 (by decide) ?_
        refine lv_goto (tgt := 26) hx hb dX11_areTwo_22 (by decide) ?_
        exact hret _ () _ _ _ _ rfl h hP hD hS dX11_areTwo_26
-- X11_learns
def rm_X11_learns : Room := { frames := 5, cells := 0, slots := 0, locals := 124 }
abbrev ws_X11_learns : List Cond := .code yX11_learns cX11_learns 6 (some .int) :: wsL_law
theorem cw_RX11_258 {R : Room} {s : State} {args : Array Value} (hts : ∀ w ∈ wsL_law, w.before args s = true) (hR : rm_X11_areTwo.frames + 1 ≤ R.frames ∧ 8 + (3 + 11) + rm_X11_areTwo.locals ≤ R.locals) : CallW R s args RX11 RX11 258 yX11_areTwo cX11_areTwo 3 (some .boolean) ws_X11_areTwo rm_X11_areTwo rm_X11_areTwo.cells rm_X11_areTwo.slots 2 := cwV 2 hts (gdV w_34_20 w_34_21 w_34_22 w_1_5 w_34_23) rfl rfl rfl (by decide +kernel) hR
theorem cw_RX11_261 {R : Room} {s : State} {args : Array Value} (hts : ∀ w ∈ wsL_law, w.before args s = true) (hR : rm_X11_firstWay.frames + 1 ≤ R.frames ∧ 8 + (10 + 11) + rm_X11_firstWay.locals ≤ R.locals) : CallW R s args RX11 RX11 261 yX11_firstWay cX11_firstWay 10 (some .int) ws_X11_firstWay rm_X11_firstWay rm_X11_firstWay.cells rm_X11_firstWay.slots 3 := cwV 3 hts (gdV w_35_0 w_35_1 w_35_2 w_1_5 w_35_3) rfl rfl rfl (by decide +kernel) hR
theorem cw_RX11_264 {R : Room} {s : State} {args : Array Value} (hts : ∀ w ∈ wsL_law, w.before args s = true) (hR : rm_X11_triesFrom.frames + 1 ≤ R.frames ∧ 8 + (6 + 11) + rm_X11_triesFrom.locals ≤ R.locals) : CallW R s args RX11 RX11 264 yX11_triesFrom cX11_triesFrom 6 (some .int) ws_X11_triesFrom rm_X11_triesFrom rm_X11_triesFrom.cells rm_X11_triesFrom.slots 4 := cwV 4 hts (gdV w_35_4 w_35_5 w_35_6 w_1_5 w_35_7) rfl rfl rfl (by decide +kernel) hR
def wp_X11_learns (st : St) (a1 : Int32) (a2 : Int32) (a3 : Int32) (a4 : Int32) (post : Int32 → St → Prop) : Prop := wp_X11_areTwo st a1 a3 (fun r1 => ((¬ r1 = 0) → (wp_X11_in a2.toInt64 1 200 (fun r4 => ((r4 = 0) → (post (-2) st)) ∧ ((¬ r4 = 0) → (wp_X11_isEnd a4 (fun r7 => ((¬ r7 = 0) → (wp_X11_firstWay st a1 a2 a3 (fun r10 t11 => wp_X11_triesFrom t11 a1 a2 a3 r10 (fun r12 t13 => ((0 ≤ r12) → (((¬ a4 = 0) → (post (gI t13 30) t13)) ∧ ((a4 = 0) → (post r12 t13)))) ∧ ((¬ 0 ≤ r12) → (post (-6) t13)))))) ∧ ((r7 = 0) → (post (-2) st)))))))) ∧ ((r1 = 0) → (post (-1) st)))
set_option maxHeartbeats 4000000 in
set_option maxRecDepth 100000 in
theorem c_X11_learns (l : Launch) (D : va_G) (cy : Nat → ClassId) (tz : Nat → Nat) (ad : Nat → Nat) (st : St) (a1 : Int32) (a2 : Int32) (a3 : Int32) (a4 : Int32) (post : Int32 → St → Prop) (h : wp_X11_learns st a1 a2 a3 a4 post) : CtI l D cy tz yX11_learns ws_X11_learns rm_X11_learns [.ref (ad 0), .int a1, .int a2, .int a3, .int a4] (wM cy ad st) (wM cy ad) post := by
  refine CtI.of (own := RX11) (nm := "learns") (lv := [(0, .ref (ad 0)), (1, .int a1), (2, .int a2), (3, .int a3), (4, .int a4)]) (plainFor_of_name (by decide)) rfl rfl (Nat.le_of_ble_eq_true rfl) rfl ?_
  intro p e s m args below meth c A Q ls B hP hD hS hl hret
  obtain ⟨hx, hb, hml, hown, hts, hK, hZ, hA, hnm⟩ := B
  have SF : CallFix p m c cX11_learns 6 s args wsL_law RX11 := ⟨hx, hb, hml, hown, hts⟩
  unfold wp_X11_learns at h
  refine lv_aload_n hx hb dX11_learns_0 rfl (lv_at hl 0 rfl) ?_
  refine lv_iload_n hx hb dX11_learns_1 rfl (lv_at hl 1 rfl) ?_
  refine lv_iload_n hx hb dX11_learns_2 rfl (lv_at hl 3 rfl) ?_
  refine callVIr (rest := []) SF (c_X11_areTwo l D cy tz ad st a1 a3 _ h) (cw_RX11_258 hts ⟨Nat.le_of_ble_eq_true rfl, Nat.le_of_ble_eq_true rfl⟩) rfl rfl (va_recv hK hP (ci := 10) (q0 := 0) rfl rfl) hK hZ hA hP hD hS rfl hl.1 rfl (Nat.le_of_ble_eq_true rfl) dX11_learns_3 ⟨Nat.zero_le _, Nat.zero_le _⟩ (fun r1 H locs h hP hD hS => ?_)
  refine lv_if_ne (tgt := 11) hx hb dX11_learns_6 (by decide) (fun c3 => ?_) (fun c3 => ?_)
  · have h := h.1 c3
    refine lv_iload_n hx hb dX11_learns_11 rfl (lv_at hl 2 rfl) ?_
    refine lv_i2l (v := a2.toInt64) hx hb dX11_learns_12 rfl ?_
    refine lv_lconst (v := 1) hx hb dX11_learns_13 (by decide) ?_
    refine lv_ldc2 (v := 200) hx hb hown (hts _ w_18_2) dX11_learns_14 ?_
    refine callSIr (rest := []) SF (c_X11_in l D cy tz _ a2.toInt64 1 200 _ h) (cw_RX11_67 hts ⟨Nat.le_of_ble_eq_true rfl, Nat.le_of_ble_eq_true rfl⟩) rfl rfl hK hZ hA hP hD hS rfl hl.1 rfl (Nat.le_of_ble_eq_true rfl) dX11_learns_17 ⟨Nat.zero_le _, Nat.zero_le _⟩ (fun r4 H locs h hP hD hS => ?_)
    refine lv_if_eq (tgt := 31) hx hb dX11_learns_20 (by decide) (fun c6 => ?_) (fun c6 => ?_)
    · have h := h.1 c6
      refine lv_bipush (v := (-2)) hx hb dX11_learns_31 (by decide) ?_
      exact hret _ _ _ _ _ _ rfl h hP hD hS dX11_learns_33
    · have h := h.2 c6
      refine lv_iload hx hb dX11_learns_23 (lv_at hl 4 rfl) ?_
      refine callSIr (rest := []) SF (c_X11_isEnd l D cy tz _ a4 _ h) (cw_RX11_121 hts ⟨Nat.le_of_ble_eq_true rfl, Nat.le_of_ble_eq_true rfl⟩) rfl rfl hK hZ hA hP hD hS rfl hl.1 rfl (Nat.le_of_ble_eq_true rfl) dX11_learns_25 ⟨Nat.zero_le _, Nat.zero_le _⟩ (fun r7 H locs h hP hD hS => ?_)
      refine lv_if_ne (tgt := 34) hx hb dX11_learns_28 (by decide) (fun c9 => ?_) (fun c9 => ?_)
      · have h := h.1 c9
        refine lv_aload_n hx hb dX11_learns_34 rfl (lv_at hl 0 rfl) ?_
        refine lv_iload_n hx hb dX11_learns_35 rfl (lv_at hl 1 rfl) ?_
        refine lv_iload_n hx hb dX11_learns_36 rfl (lv_at hl 2 rfl) ?_
        refine lv_iload_n hx hb dX11_learns_37 rfl (lv_at hl 3 rfl) ?_
        refine lv_aload_n hx hb dX11_learns_38 rfl (lv_at hl 0 rfl) ?_
        refine lv_iload_n hx hb dX11_learns_39 rfl (lv_at hl 1 rfl) ?_
        refine lv_iload_n hx hb dX11_learns_40 rfl (lv_at hl 2 rfl) ?_
        refine lv_iload_n hx hb dX11_learns_41 rfl (lv_at hl 3 rfl) ?_
        refine callVI (rest := [.int a3, .int a2, .int a1, .ref (ad 0)]) SF (c_X11_firstWay l D cy tz ad st a1 a2 a3 _ h) (cw_RX11_261 hts ⟨Nat.le_of_ble_eq_true rfl, Nat.le_of_ble_eq_true rfl⟩) rfl rfl (va_recv hK hP (ci := 10) (q0 := 0) rfl rfl) hK hZ hA hP hD hS rfl hl.1 rfl (Nat.le_of_ble_eq_true rfl) dX11_learns_42 ⟨Nat.zero_le _, Nat.zero_le _⟩ (fun r10 t11 H locs h hP hD hS => ?_)
        refine callVI (rest := []) SF (c_X11_triesFrom l D cy tz ad t11 a1 a2 a3 r10 _ h) (cw_RX11_264 hts ⟨Nat.le_of_ble_eq_true rfl, Nat.le_of_ble_eq_true rfl⟩) rfl rfl (va_recv hK hP (ci := 10) (q0 := 0) rfl rfl) hK hZ hA hP hD hS rfl hl.1 rfl (Nat.le_of_ble_eq_true rfl) dX11_learns_45 ⟨Nat.zero_le _, Nat.zero_le _⟩ (fun r12 t13 H locs h hP hD hS => ?_)
        refine lv_istore (lv' := [(5, .int r12), (0, .ref (ad 0)), (1, .int a1), (2, .int a2), (3, .int a3), (4, .int a4)]) hx hb dX11_learns_48 hl (by decide) rfl (fun ls hl => ?_)
        refine lv_iload hx hb dX11_learns_50 (lv_at hl 0 rfl) ?_
        refine lv_if_ge (tgt := 60) hx hb dX11_learns_52 (by decide) (fun c14 => ?_) (fun c14 => ?_)
        · have h := h.1 c14
          refine lv_iload hx hb dX11_learns_60 (lv_at hl 5 rfl) ?_
          refine lv_if_ne (tgt := 70) hx hb dX11_learns_62 (by decide) (fun c15 => ?_) (fun c15 => ?_)
          · have h := h.1 c15
            refine lv_aload_n hx hb dX11_learns_70 rfl (lv_at hl 1 rfl) ?_
            refine va_get (D := D) (ci := 10) (v := .int (gI t13 30)) (C := RX11) (T := TX11) (N := 35) hx hb hts inlX11 hown hK hP 0 rfl rfl 30 (by decide) (hts _ w_34_19) (fun _ h9 => h9) rfl dX11_learns_71 ?_
            exact hret _ _ _ _ _ _ rfl h hP hD hS dX11_learns_74
          · have h := h.2 c15
            refine lv_iload hx hb dX11_learns_65 (lv_at hl 0 rfl) ?_
            refine lv_goto (tgt := 74) hx hb dX11_learns_67 (by decide) ?_
            exact hret _ _ _ _ _ _ rfl h hP hD hS dX11_learns_74
        · have h := h.2 c14
          refine lv_bipush (v := (-6)) hx hb dX11_learns_55 (by decide) ?_
          refine lv_goto (tgt := 74) hx hb dX11_learns_57 (by decide) ?_
          exact hret _ _ _ _ _ _ rfl h hP hD hS dX11_learns_74
      · have h := h.2 c9
        refine lv_bipush (v := (-2)) hx hb dX11_learns_31 (by decide) ?_
        exact hret _ _ _ _ _ _ rfl h hP hD hS dX11_learns_33
  · have h := h.2 c3
    refine lv_iconst (v := (-1)) hx hb dX11_learns_9 (by decide) ?_
    exact hret _ _ _ _ _ _ rfl h hP hD hS dX11_learns_10
-- X11_along
def rm_X11_along : Room := { frames := 5, cells := 0, slots := 0, locals := 124 }
abbrev ws_X11_along : List Cond := .code yX11_along cX11_along 7 (some .int) :: wsL_law
def wp_X11_along (st : St) (a1 : Int32) (a2 : Int32) (a3 : Int32) (a4 : Int32) (post : Int32 → St → Prop) : Prop := wp_X11_areTwo st a1 a3 (fun r1 => ((¬ r1 = 0) → (wp_X11_in a2.toInt64 1 200 (fun r4 => ((r4 = 0) → (post (-2) st)) ∧ ((¬ r4 = 0) → (wp_X11_in a4.toInt64 0 198 (fun r7 => ((¬ r7 = 0) → (wp_X11_firstWay st a1 a2 a3 (fun r10 t11 => wp_X11_triesFrom t11 a1 a2 a3 r10 (fun r12 t13 => ((0 ≤ r12) → (∀ x15 : Int32, x15 = (gA t13 3 (0 : Int32).toNatClampNeg) → (∀ x17 : Int32, x17 = (a4 - 99) → (wp_X11_triesFrom (sA t13 3 (upd (gA t13 3) (0 : Int32).toNatClampNeg x17)) a1 a2 a3 (gI t13 30) (fun r19 t20 => post r19 (sA t20 3 (upd (gA t20 3) (0 : Int32).toNatClampNeg x15))))))) ∧ ((¬ 0 ≤ r12) → (post (-6) t13)))))) ∧ ((r7 = 0) → (post (-2) st)))))))) ∧ ((r1 = 0) → (post (-1) st)))
set_option maxHeartbeats 4000000 in
set_option maxRecDepth 100000 in
theorem c_X11_along (l : Launch) (D : va_G) (cy : Nat → ClassId) (tz : Nat → Nat) (ad : Nat → Nat) (st : St) (a1 : Int32) (a2 : Int32) (a3 : Int32) (a4 : Int32) (post : Int32 → St → Prop) (h : wp_X11_along st a1 a2 a3 a4 post) : CtI l D cy tz yX11_along ws_X11_along rm_X11_along [.ref (ad 0), .int a1, .int a2, .int a3, .int a4] (wM cy ad st) (wM cy ad) post := by
  refine CtI.of (own := RX11) (nm := "along") (lv := [(0, .ref (ad 0)), (1, .int a1), (2, .int a2), (3, .int a3), (4, .int a4)]) (plainFor_of_name (by decide)) rfl rfl (Nat.le_of_ble_eq_true rfl) rfl ?_
  intro p e s m args below meth c A Q ls B hP hD hS hl hret
  obtain ⟨hx, hb, hml, hown, hts, hK, hZ, hA, hnm⟩ := B
  have SF : CallFix p m c cX11_along 7 s args wsL_law RX11 := ⟨hx, hb, hml, hown, hts⟩
  unfold wp_X11_along at h
  refine lv_aload_n hx hb dX11_along_0 rfl (lv_at hl 0 rfl) ?_
  refine lv_iload_n hx hb dX11_along_1 rfl (lv_at hl 1 rfl) ?_
  refine lv_iload_n hx hb dX11_along_2 rfl (lv_at hl 3 rfl) ?_
  refine callVIr (rest := []) SF (c_X11_areTwo l D cy tz ad st a1 a3 _ h) (cw_RX11_258 hts ⟨Nat.le_of_ble_eq_true rfl, Nat.le_of_ble_eq_true rfl⟩) rfl rfl (va_recv hK hP (ci := 10) (q0 := 0) rfl rfl) hK hZ hA hP hD hS rfl hl.1 rfl (Nat.le_of_ble_eq_true rfl) dX11_along_3 ⟨Nat.zero_le _, Nat.zero_le _⟩ (fun r1 H locs h hP hD hS => ?_)
  refine lv_if_ne (tgt := 11) hx hb dX11_along_6 (by decide) (fun c3 => ?_) (fun c3 => ?_)
  · have h := h.1 c3
    refine lv_iload_n hx hb dX11_along_11 rfl (lv_at hl 2 rfl) ?_
    refine lv_i2l (v := a2.toInt64) hx hb dX11_along_12 rfl ?_
    refine lv_lconst (v := 1) hx hb dX11_along_13 (by decide) ?_
    refine lv_ldc2 (v := 200) hx hb hown (hts _ w_18_2) dX11_along_14 ?_
    refine callSIr (rest := []) SF (c_X11_in l D cy tz _ a2.toInt64 1 200 _ h) (cw_RX11_67 hts ⟨Nat.le_of_ble_eq_true rfl, Nat.le_of_ble_eq_true rfl⟩) rfl rfl hK hZ hA hP hD hS rfl hl.1 rfl (Nat.le_of_ble_eq_true rfl) dX11_along_17 ⟨Nat.zero_le _, Nat.zero_le _⟩ (fun r4 H locs h hP hD hS => ?_)
    refine lv_if_eq (tgt := 36) hx hb dX11_along_20 (by decide) (fun c6 => ?_) (fun c6 => ?_)
    · have h := h.1 c6
      refine lv_bipush (v := (-2)) hx hb dX11_along_36 (by decide) ?_
      exact hret _ _ _ _ _ _ rfl h hP hD hS dX11_along_38
    · have h := h.2 c6
      refine lv_iload hx hb dX11_along_23 (lv_at hl 4 rfl) ?_
      refine lv_i2l (v := a4.toInt64) hx hb dX11_along_25 rfl ?_
      refine lv_lconst (v := 0) hx hb dX11_along_26 (by decide) ?_
      refine lv_ldc2 (v := 198) hx hb hown (hts _ w_35_20) dX11_along_27 ?_
      refine callSIr (rest := []) SF (c_X11_in l D cy tz _ a4.toInt64 0 198 _ h) (cw_RX11_67 hts ⟨Nat.le_of_ble_eq_true rfl, Nat.le_of_ble_eq_true rfl⟩) rfl rfl hK hZ hA hP hD hS rfl hl.1 rfl (Nat.le_of_ble_eq_true rfl) dX11_along_30 ⟨Nat.zero_le _, Nat.zero_le _⟩ (fun r7 H locs h hP hD hS => ?_)
      refine lv_if_ne (tgt := 39) hx hb dX11_along_33 (by decide) (fun c9 => ?_) (fun c9 => ?_)
      · have h := h.1 c9
        refine lv_aload_n hx hb dX11_along_39 rfl (lv_at hl 0 rfl) ?_
        refine lv_iload_n hx hb dX11_along_40 rfl (lv_at hl 1 rfl) ?_
        refine lv_iload_n hx hb dX11_along_41 rfl (lv_at hl 2 rfl) ?_
        refine lv_iload_n hx hb dX11_along_42 rfl (lv_at hl 3 rfl) ?_
        refine lv_aload_n hx hb dX11_along_43 rfl (lv_at hl 0 rfl) ?_
        refine lv_iload_n hx hb dX11_along_44 rfl (lv_at hl 1 rfl) ?_
        refine lv_iload_n hx hb dX11_along_45 rfl (lv_at hl 2 rfl) ?_
        refine lv_iload_n hx hb dX11_along_46 rfl (lv_at hl 3 rfl) ?_
        refine callVI (rest := [.int a3, .int a2, .int a1, .ref (ad 0)]) SF (c_X11_firstWay l D cy tz ad st a1 a2 a3 _ h) (cw_RX11_261 hts ⟨Nat.le_of_ble_eq_true rfl, Nat.le_of_ble_eq_true rfl⟩) rfl rfl (va_recv hK hP (ci := 10) (q0 := 0) rfl rfl) hK hZ hA hP hD hS rfl hl.1 rfl (Nat.le_of_ble_eq_true rfl) dX11_along_47 ⟨Nat.zero_le _, Nat.zero_le _⟩ (fun r10 t11 H locs h hP hD hS => ?_)
        refine callVI (rest := []) SF (c_X11_triesFrom l D cy tz ad t11 a1 a2 a3 r10 _ h) (cw_RX11_264 hts ⟨Nat.le_of_ble_eq_true rfl, Nat.le_of_ble_eq_true rfl⟩) rfl rfl (va_recv hK hP (ci := 10) (q0 := 0) rfl rfl) hK hZ hA hP hD hS rfl hl.1 rfl (Nat.le_of_ble_eq_true rfl) dX11_along_50 ⟨Nat.zero_le _, Nat.zero_le _⟩ (fun r12 t13 H locs h hP hD hS => ?_)
        refine lv_if_ge (tgt := 59) hx hb dX11_along_53 (by decide) (fun c14 => ?_) (fun c14 => ?_)
        · have h := h.1 c14
          refine lv_aload_n hx hb dX11_along_59 rfl (lv_at hl 0 rfl) ?_
          refine va_get (D := D) (ci := 10) (v := .ref (ad 2)) (C := RX11) (T := TX11) (N := 35) hx hb hts inlX11 hown hK hP 0 rfl rfl 3 (by decide) (hts _ w_5_7) (fun _ h9 => h9) rfl dX11_along_60 ?_
          refine lv_iconst (v := 0) hx hb dX11_along_63 (by decide) ?_
          refine va_iald (f := gA t13 3) (n := 5) hx hb hK hP 2 0 rfl rfl (vin (by decide +kernel)) dX11_along_64 ?_
          refine lv_topi (fun x15 e16 => ?_)
          have h := h x15 e16
          refine lv_istore (lv' := [(5, .int x15), (0, .ref (ad 0)), (1, .int a1), (2, .int a2), (3, .int a3), (4, .int a4)]) hx hb dX11_along_65 hl (by decide) rfl (fun ls hl => ?_)
          refine lv_aload_n hx hb dX11_along_67 rfl (lv_at hl 1 rfl) ?_
          refine va_get (D := D) (ci := 10) (v := .ref (ad 2)) (C := RX11) (T := TX11) (N := 35) hx hb hts inlX11 hown hK hP 0 rfl rfl 3 (by decide) (hts _ w_5_7) (fun _ h9 => h9) rfl dX11_along_68 ?_
          refine lv_iconst (v := 0) hx hb dX11_along_71 (by decide) ?_
          refine lv_iload hx hb dX11_along_72 (lv_at hl 5 rfl) ?_
          refine lv_bipush (v := 99) hx hb dX11_along_74 (by decide) ?_
          refine lv_isub hx hb dX11_along_76 ?_
          refine lv_topi (fun x17 e18 => ?_)
          have h := h x17 e18
          refine va_iast (f := gA t13 3) (n := 5) hx hb hK hP hD hS 2 0 rfl rfl (vin (by decide +kernel)) dX11_along_77 (fun H locs hP hD hS => ?_)
          have hP : va_P D vwCl (wM cy ad (sA t13 3 (upd (gA t13 3) (0 : Int32).toNatClampNeg x17))) H := hP
          have hD : va_D A (wM cy ad (sA t13 3 (upd (gA t13 3) (0 : Int32).toNatClampNeg x17))) := hD
          refine lv_aload_n hx hb dX11_along_78 rfl (lv_at hl 1 rfl) ?_
          refine lv_iload_n hx hb dX11_along_79 rfl (lv_at hl 2 rfl) ?_
          refine lv_iload_n hx hb dX11_along_80 rfl (lv_at hl 3 rfl) ?_
          refine lv_iload_n hx hb dX11_along_81 rfl (lv_at hl 4 rfl) ?_
          refine lv_aload_n hx hb dX11_along_82 rfl (lv_at hl 1 rfl) ?_
          refine va_get (D := D) (ci := 10) (v := .int (gI t13 30)) (C := RX11) (T := TX11) (N := 35) hx hb hts inlX11 hown hK hP 0 rfl rfl 30 (by decide) (hts _ w_34_19) (fun _ h9 => h9) rfl dX11_along_83 ?_
          refine callVI (rest := []) SF (c_X11_triesFrom l D cy tz ad (sA t13 3 (upd (gA t13 3) (0 : Int32).toNatClampNeg x17)) a1 a2 a3 (gI t13 30) _ h) (cw_RX11_264 hts ⟨Nat.le_of_ble_eq_true rfl, Nat.le_of_ble_eq_true rfl⟩) rfl rfl (va_recv hK hP (ci := 10) (q0 := 0) rfl rfl) hK hZ hA hP hD hS rfl hl.1 rfl (Nat.le_of_ble_eq_true rfl) dX11_along_86 ⟨Nat.zero_le _, Nat.zero_le _⟩ (fun r19 t20 H locs h hP hD hS => ?_)
          refine lv_istore (lv' := [(6, .int r19), (5, .int x15), (0, .ref (ad 0)), (1, .int a1), (2, .int a2), (3, .int a3), (4, .int a4)]) hx hb dX11_along_89 hl (by decide) rfl (fun ls hl => ?_)
          refine lv_aload_n hx hb dX11_along_91 rfl (lv_at hl 2 rfl) ?_
          refine va_get (D := D) (ci := 10) (v := .ref (ad 2)) (C := RX11) (T := TX11) (N := 35) hx hb hts inlX11 hown hK hP 0 rfl rfl 3 (by decide) (hts _ w_5_7) (fun _ h9 => h9) rfl dX11_along_92 ?_
          refine lv_iconst (v := 0) hx hb dX11_along_95 (by decide) ?_
          refine lv_iload hx hb dX11_along_96 (lv_at hl 1 rfl) ?_
          refine va_iast (f := gA t20 3) (n := 5) hx hb hK hP hD hS 2 0 rfl rfl (vin (by decide +kernel)) dX11_along_98 (fun H locs hP hD hS => ?_)
          have hP : va_P D vwCl (wM cy ad (sA t20 3 (upd (gA t20 3) (0 : Int32).toNatClampNeg x15))) H := hP
          have hD : va_D A (wM cy ad (sA t20 3 (upd (gA t20 3) (0 : Int32).toNatClampNeg x15))) := hD
          refine lv_iload hx hb dX11_along_99 (lv_at hl 0 rfl) ?_
          exact hret _ _ _ _ _ _ rfl h hP hD hS dX11_along_101
        · have h := h.2 c14
          refine lv_bipush (v := (-6)) hx hb dX11_along_56 (by decide) ?_
          exact hret _ _ _ _ _ _ rfl h hP hD hS dX11_along_58
      · have h := h.2 c9
        refine lv_bipush (v := (-2)) hx hb dX11_along_36 (by decide) ?_
        exact hret _ _ _ _ _ _ rfl h hP hD hS dX11_along_38
  · have h := h.2 c3
    refine lv_iconst (v := (-1)) hx hb dX11_along_9 (by decide) ?_
    exact hret _ _ _ _ _ _ rfl h hP hD hS dX11_along_10
-- X11_pass
def rm_X11_pass : Room := { frames := 0, cells := 0, slots := 0, locals := 0 }
abbrev ws_X11_pass : List Cond := .code yX11_pass cX11_pass 3 (some .int) :: wsL_law
def wp_X11_pass (st : St) (a1 : Int32) (post : Int32 → St → Prop) : Prop := ((gI st 34 = 0) → (vp_in (gI st 33) 280 ∧ (∀ x2 : Int32, x2 = (gA st 31 (gI st 33).toNatClampNeg) → (vp_in (gI st 33) 280 ∧ (∀ x4 : Int32, x4 = (gI st 33 + 1) → (post x2 (sI (sA st 31 (upd (gA st 31) (gI st 33).toNatClampNeg x2)) 33 x4))))))) ∧ ((¬ gI st 34 = 0) → (vp_in (gI st 33) 280 ∧ (∀ x6 : Int32, x6 = (gI st 33 + 1) → (post a1 (sI (sA st 31 (upd (gA st 31) (gI st 33).toNatClampNeg a1)) 33 x6)))))
set_option maxHeartbeats 4000000 in
set_option maxRecDepth 100000 in
theorem c_X11_pass (l : Launch) (D : va_G) (cy : Nat → ClassId) (tz : Nat → Nat) (ad : Nat → Nat) (st : St) (a1 : Int32) (post : Int32 → St → Prop) (h : wp_X11_pass st a1 post) : CtI l D cy tz yX11_pass ws_X11_pass rm_X11_pass [.ref (ad 0), .int a1] (wM cy ad st) (wM cy ad) post := by
  refine CtI.of (own := RX11) (nm := "pass") (lv := [(0, .ref (ad 0)), (1, .int a1)]) (plainFor_of_name (by decide)) rfl rfl (Nat.le_of_ble_eq_true rfl) rfl ?_
  intro p e s m args below meth c A Q ls B hP hD hS hl hret
  obtain ⟨hx, hb, hml, hown, hts, hK, hZ, hA, hnm⟩ := B
  have SF : CallFix p m c cX11_pass 3 s args wsL_law RX11 := ⟨hx, hb, hml, hown, hts⟩
  unfold wp_X11_pass at h
  refine lv_aload_n hx hb dX11_pass_0 rfl (lv_at hl 0 rfl) ?_
  refine va_get (D := D) (ci := 10) (v := .int (gI st 34)) (C := RX11) (T := TX11) (N := 35) hx hb hts inlX11 hown hK hP 0 rfl rfl 34 (by decide) (hts _ w_37_3) (fun _ h9 => h9) rfl dX11_pass_1 ?_
  refine lv_if_eq (tgt := 11) hx hb dX11_pass_4 (by decide) (fun c1 => ?_) (fun c1 => ?_)
  · have h := h.1 c1
    refine lv_aload_n hx hb dX11_pass_11 rfl (lv_at hl 0 rfl) ?_
    refine va_get (D := D) (ci := 10) (v := .ref (ad 17)) (C := RX11) (T := TX11) (N := 35) hx hb hts inlX11 hown hK hP 0 rfl rfl 31 (by decide) (hts _ w_5_23) (fun _ h9 => h9) rfl dX11_pass_12 ?_
    refine lv_aload_n hx hb dX11_pass_15 rfl (lv_at hl 0 rfl) ?_
    refine va_get (D := D) (ci := 10) (v := .int (gI st 33)) (C := RX11) (T := TX11) (N := 35) hx hb hts inlX11 hown hK hP 0 rfl rfl 33 (by decide) (hts _ w_37_2) (fun _ h9 => h9) rfl dX11_pass_16 ?_
    refine va_iald (f := gA st 31) (n := 280) hx hb hK hP 17 0 rfl rfl h.1 dX11_pass_19 ?_
    have h := h.2
    refine lv_topi (fun x2 e3 => ?_)
    have h := h x2 e3
    refine lv_istore_n (lv' := [(2, .int x2), (0, .ref (ad 0)), (1, .int a1)]) hx hb dX11_pass_20 rfl hl (by decide) rfl (fun ls hl => ?_)
    refine lv_aload_n hx hb dX11_pass_21 rfl (lv_at hl 1 rfl) ?_
    refine va_get (D := D) (ci := 10) (v := .ref (ad 17)) (C := RX11) (T := TX11) (N := 35) hx hb hts inlX11 hown hK hP 0 rfl rfl 31 (by decide) (hts _ w_5_23) (fun _ h9 => h9) rfl dX11_pass_22 ?_
    refine lv_aload_n hx hb dX11_pass_25 rfl (lv_at hl 1 rfl) ?_
    refine va_get (D := D) (ci := 10) (v := .int (gI st 33)) (C := RX11) (T := TX11) (N := 35) hx hb hts inlX11 hown hK hP 0 rfl rfl 33 (by decide) (hts _ w_37_2) (fun _ h9 => h9) rfl dX11_pass_26 ?_
    refine lv_iload_n hx hb dX11_pass_29 rfl (lv_at hl 0 rfl) ?_
    refine va_iast (f := gA st 31) (n := 280) hx hb hK hP hD hS 17 0 rfl rfl h.1 dX11_pass_30 (fun H locs hP hD hS => ?_)
    have h := h.2
    have hP : va_P D vwCl (wM cy ad (sA st 31 (upd (gA st 31) (gI st 33).toNatClampNeg x2))) H := hP
    have hD : va_D A (wM cy ad (sA st 31 (upd (gA st 31) (gI st 33).toNatClampNeg x2))) := hD
    refine lv_aload_n hx hb dX11_pass_31 rfl (lv_at hl 1 rfl) ?_
    refine lv_dup hx hb dX11_pass_32 rfl ?_
    refine va_get (D := D) (ci := 10) (v := .int (gI st 33)) (C := RX11) (T := TX11) (N := 35) hx hb hts inlX11 hown hK hP 0 rfl rfl 33 (by decide) (hts _ w_37_2) (fun _ h9 => h9) rfl dX11_pass_33 ?_
    refine lv_iconst (v := 1) hx hb dX11_pass_36 (by decide) ?_
    refine lv_iadd hx hb dX11_pass_37 ?_
    refine lv_topi (fun x4 e5 => ?_)
    have h := h x4 e5
    refine va_put (D := D) (ci := 10) (v := .int x4) (ty := .int) (C := RX11) (T := TX11) (N := 35) hx hb hts inlX11 tyX11 tyX11_ok nmX11 hown hK hP hD hS 0 rfl rfl 33 (by decide) (hts _ w_37_2) (fun _ h9 => h9) rfl (by decide +kernel) rfl rfl (Nat.le_of_ble_eq_true rfl) dX11_pass_38 (fun H locs hP hD hS => ?_)
    have hP : va_P D vwCl (wM cy ad (sI (sA st 31 (upd (gA st 31) (gI st 33).toNatClampNeg x2)) 33 x4)) H := hP
    have hD : va_D A (wM cy ad (sI (sA st 31 (upd (gA st 31) (gI st 33).toNatClampNeg x2)) 33 x4)) := hD
    refine lv_iload_n hx hb dX11_pass_41 rfl (lv_at hl 0 rfl) ?_
    exact hret _ _ _ _ _ _ rfl h hP hD hS dX11_pass_42
  · have h := h.2 c1
    refine lv_iload_n hx hb dX11_pass_7 rfl (lv_at hl 1 rfl) ?_
    refine lv_goto (tgt := 20) hx hb dX11_pass_8 (by decide) ?_
    refine lv_istore_n (lv' := [(2, .int a1), (0, .ref (ad 0)), (1, .int a1)]) hx hb dX11_pass_20 rfl hl (by decide) rfl (fun ls hl => ?_)
    refine lv_aload_n hx hb dX11_pass_21 rfl (lv_at hl 1 rfl) ?_
    refine va_get (D := D) (ci := 10) (v := .ref (ad 17)) (C := RX11) (T := TX11) (N := 35) hx hb hts inlX11 hown hK hP 0 rfl rfl 31 (by decide) (hts _ w_5_23) (fun _ h9 => h9) rfl dX11_pass_22 ?_
    refine lv_aload_n hx hb dX11_pass_25 rfl (lv_at hl 1 rfl) ?_
    refine va_get (D := D) (ci := 10) (v := .int (gI st 33)) (C := RX11) (T := TX11) (N := 35) hx hb hts inlX11 hown hK hP 0 rfl rfl 33 (by decide) (hts _ w_37_2) (fun _ h9 => h9) rfl dX11_pass_26 ?_
    refine lv_iload_n hx hb dX11_pass_29 rfl (lv_at hl 0 rfl) ?_
    refine va_iast (f := gA st 31) (n := 280) hx hb hK hP hD hS 17 0 rfl rfl h.1 dX11_pass_30 (fun H locs hP hD hS => ?_)
    have h := h.2
    have hP : va_P D vwCl (wM cy ad (sA st 31 (upd (gA st 31) (gI st 33).toNatClampNeg a1))) H := hP
    have hD : va_D A (wM cy ad (sA st 31 (upd (gA st 31) (gI st 33).toNatClampNeg a1))) := hD
    refine lv_aload_n hx hb dX11_pass_31 rfl (lv_at hl 1 rfl) ?_
    refine lv_dup hx hb dX11_pass_32 rfl ?_
    refine va_get (D := D) (ci := 10) (v := .int (gI st 33)) (C := RX11) (T := TX11) (N := 35) hx hb hts inlX11 hown hK hP 0 rfl rfl 33 (by decide) (hts _ w_37_2) (fun _ h9 => h9) rfl dX11_pass_33 ?_
    refine lv_iconst (v := 1) hx hb dX11_pass_36 (by decide) ?_
    refine lv_iadd hx hb dX11_pass_37 ?_
    refine lv_topi (fun x6 e7 => ?_)
    have h := h x6 e7
    refine va_put (D := D) (ci := 10) (v := .int x6) (ty := .int) (C := RX11) (T := TX11) (N := 35) hx hb hts inlX11 tyX11 tyX11_ok nmX11 hown hK hP hD hS 0 rfl rfl 33 (by decide) (hts _ w_37_2) (fun _ h9 => h9) rfl (by decide +kernel) rfl rfl (Nat.le_of_ble_eq_true rfl) dX11_pass_38 (fun H locs hP hD hS => ?_)
    have hP : va_P D vwCl (wM cy ad (sI (sA st 31 (upd (gA st 31) (gI st 33).toNatClampNeg a1)) 33 x6)) H := hP
    have hD : va_D A (wM cy ad (sI (sA st 31 (upd (gA st 31) (gI st 33).toNatClampNeg a1)) 33 x6)) := hD
    refine lv_iload_n hx hb dX11_pass_41 rfl (lv_at hl 0 rfl) ?_
    exact hret _ _ _ _ _ _ rfl h hP hD hS dX11_pass_42
-- X11_passAll
def rm_X11_passAll : Room := { frames := 1, cells := 0, slots := 0, locals := 22 }
abbrev ws_X11_passAll : List Cond := .code yX11_passAll cX11_passAll 2 none :: wsL_law
theorem cw_RX11_276 {R : Room} {s : State} {args : Array Value} (hts : ∀ w ∈ wsL_law, w.before args s = true) (hR : rm_X11_pass.frames + 1 ≤ R.frames ∧ 8 + (3 + 11) + rm_X11_pass.locals ≤ R.locals) : CallW R s args RX11 RX11 276 yX11_pass cX11_pass 3 (some .int) ws_X11_pass rm_X11_pass rm_X11_pass.cells rm_X11_pass.slots 1 := cwV 1 hts (gdV w_37_8 w_37_9 w_37_10 w_1_5 w_37_11) rfl rfl rfl (by decide +kernel) hR
def wp_X11_passAll_L171 (post : St → Prop) (K : St → Prop) : Nat → St → Int32 → Prop
  | 0, _, _ => False
  | n171 + 1, t38, v37 => ((24 ≤ v37) → (K t38)) ∧ ((¬ 24 ≤ v37) → (vp_in v37 24 ∧ (wp_X11_pass t38 (gA t38 25 v37.toNatClampNeg) (fun r40 t41 => vp_in v37 24 ∧ (vp_in v37 24 ∧ (wp_X11_pass (sA t41 25 (upd (gA t41 25) v37.toNatClampNeg r40)) (gA t41 26 v37.toNatClampNeg) (fun r42 t43 => vp_in v37 24 ∧ (∀ x44 : Int32, x44 = v37 + 1 → (wp_X11_passAll_L171 post K n171 (sA t43 26 (upd (gA t43 26) v37.toNatClampNeg r42)) x44)))))))))
def wp_X11_passAll_L125 (post : St → Prop) (K : St → Prop) : Nat → St → Int32 → Prop
  | 0, _, _ => False
  | n125 + 1, t28, v27 => ((8 ≤ v27) → (K t28)) ∧ ((¬ 8 ≤ v27) → (vp_in v27 8 ∧ (wp_X11_pass t28 (gA t28 12 v27.toNatClampNeg) (fun r30 t31 => vp_in v27 8 ∧ (vp_in v27 8 ∧ (wp_X11_pass (sA t31 12 (upd (gA t31 12) v27.toNatClampNeg r30)) (gA t31 13 v27.toNatClampNeg) (fun r32 t33 => vp_in v27 8 ∧ (∀ x34 : Int32, x34 = v27 + 1 → (wp_X11_passAll_L125 post K n125 (sA t33 13 (upd (gA t33 13) v27.toNatClampNeg r32)) x34)))))))))
def wp_X11_passAll_L79 (post : St → Prop) (K : St → Prop) : Nat → St → Int32 → Prop
  | 0, _, _ => False
  | n79 + 1, t18, v17 => ((20 ≤ v17) → (K t18)) ∧ ((¬ 20 ≤ v17) → (vp_in v17 20 ∧ (wp_X11_pass t18 (gA t18 8 v17.toNatClampNeg) (fun r20 t21 => vp_in v17 20 ∧ (vp_in v17 20 ∧ (wp_X11_pass (sA t21 8 (upd (gA t21 8) v17.toNatClampNeg r20)) (gA t21 9 v17.toNatClampNeg) (fun r22 t23 => vp_in v17 20 ∧ (∀ x24 : Int32, x24 = v17 + 1 → (wp_X11_passAll_L79 post K n79 (sA t23 9 (upd (gA t23 9) v17.toNatClampNeg r22)) x24)))))))))
def wp_X11_passAll_L50 (post : St → Prop) (K : St → Prop) : Nat → St → Int32 → Prop
  | 0, _, _ => False
  | n50 + 1, t10, v9 => ((5 ≤ v9) → (K t10)) ∧ ((¬ 5 ≤ v9) → (vp_in v9 5 ∧ (wp_X11_pass t10 (gA t10 3 v9.toNatClampNeg) (fun r12 t13 => vp_in v9 5 ∧ (∀ x14 : Int32, x14 = v9 + 1 → (wp_X11_passAll_L50 post K n50 (sA t13 3 (upd (gA t13 3) v9.toNatClampNeg r12)) x14))))))
def wp_X11_passAll (st : St) (post : St → Prop) : Prop := wp_X11_pass st (gI st 10) (fun r1 t2 => wp_X11_pass (sI t2 10 r1) (gI t2 11) (fun r3 t4 => wp_X11_pass (sI t4 11 r3) (gI t4 14) (fun r5 t6 => wp_X11_pass (sI t6 14 r5) (gI t6 27) (fun r7 t8 => ∃ m50 : Nat, wp_X11_passAll_L50 post (fun t16 => ∃ m79 : Nat, wp_X11_passAll_L79 post (fun t26 => ∃ m125 : Nat, wp_X11_passAll_L125 post (fun t36 => ∃ m171 : Nat, wp_X11_passAll_L171 post (fun t46 => post t46) m171 t36 0) m125 t26 0) m79 t16 0) m50 (sI t8 27 r7) 0))))
set_option maxHeartbeats 4000000 in
set_option maxRecDepth 100000 in
theorem c_X11_passAll (l : Launch) (D : va_G) (cy : Nat → ClassId) (tz : Nat → Nat) (ad : Nat → Nat) (st : St) (post : St → Prop) (h : wp_X11_passAll st post) : CtV l D cy tz yX11_passAll ws_X11_passAll rm_X11_passAll [.ref (ad 0)] (wM cy ad st) (wM cy ad) post := by
  refine CtV.of (own := RX11) (nm := "passAll") (lv := [(0, .ref (ad 0))]) (plainFor_of_name (by decide)) rfl rfl (Nat.le_of_ble_eq_true rfl) rfl ?_
  intro p e s m args below meth c A Q ls B hP hD hS hl hret
  obtain ⟨hx, hb, hml, hown, hts, hK, hZ, hA, hnm⟩ := B
  have SF : CallFix p m c cX11_passAll 2 s args wsL_law RX11 := ⟨hx, hb, hml, hown, hts⟩
  unfold wp_X11_passAll at h
  refine lv_aload_n hx hb dX11_passAll_0 rfl (lv_at hl 0 rfl) ?_
  refine lv_aload_n hx hb dX11_passAll_1 rfl (lv_at hl 0 rfl) ?_
  refine lv_aload_n hx hb dX11_passAll_2 rfl (lv_at hl 0 rfl) ?_
  refine va_get (D := D) (ci := 10) (v := .int (gI st 10)) (C := RX11) (T := TX11) (N := 35) hx hb hts inlX11 hown hK hP 0 rfl rfl 10 (by decide) (hts _ w_10_1) (fun _ h9 => h9) rfl dX11_passAll_3 ?_
  refine callVI (rest := [.ref (ad 0)]) SF (c_X11_pass l D cy tz ad st (gI st 10) _ h) (cw_RX11_276 hts ⟨Nat.le_of_ble_eq_true rfl, Nat.le_of_ble_eq_true rfl⟩) rfl rfl (va_recv hK hP (ci := 10) (q0 := 0) rfl rfl) hK hZ hA hP hD hS rfl hl.1 rfl (Nat.le_of_ble_eq_true rfl) dX11_passAll_6 ⟨Nat.zero_le _, Nat.zero_le _⟩ (fun r1 t2 H locs h hP hD hS => ?_)
  refine va_put (D := D) (ci := 10) (v := .int r1) (ty := .int) (C := RX11) (T := TX11) (N := 35) hx hb hts inlX11 tyX11 tyX11_ok nmX11 hown hK hP hD hS 0 rfl rfl 10 (by decide) (hts _ w_10_1) (fun _ h9 => h9) rfl (by decide +kernel) rfl rfl (Nat.le_of_ble_eq_true rfl) dX11_passAll_9 (fun H locs hP hD hS => ?_)
  have hP : va_P D vwCl (wM cy ad (sI t2 10 r1)) H := hP
  have hD : va_D A (wM cy ad (sI t2 10 r1)) := hD
  refine lv_aload_n hx hb dX11_passAll_12 rfl (lv_at hl 0 rfl) ?_
  refine lv_aload_n hx hb dX11_passAll_13 rfl (lv_at hl 0 rfl) ?_
  refine lv_aload_n hx hb dX11_passAll_14 rfl (lv_at hl 0 rfl) ?_
  refine va_get (D := D) (ci := 10) (v := .int (gI t2 11)) (C := RX11) (T := TX11) (N := 35) hx hb hts inlX11 hown hK hP 0 rfl rfl 11 (by decide) (hts _ w_10_2) (fun _ h9 => h9) rfl dX11_passAll_15 ?_
  refine callVI (rest := [.ref (ad 0)]) SF (c_X11_pass l D cy tz ad (sI t2 10 r1) (gI t2 11) _ h) (cw_RX11_276 hts ⟨Nat.le_of_ble_eq_true rfl, Nat.le_of_ble_eq_true rfl⟩) rfl rfl (va_recv hK hP (ci := 10) (q0 := 0) rfl rfl) hK hZ hA hP hD hS rfl hl.1 rfl (Nat.le_of_ble_eq_true rfl) dX11_passAll_18 ⟨Nat.zero_le _, Nat.zero_le _⟩ (fun r3 t4 H locs h hP hD hS => ?_)
  refine va_put (D := D) (ci := 10) (v := .int r3) (ty := .int) (C := RX11) (T := TX11) (N := 35) hx hb hts inlX11 tyX11 tyX11_ok nmX11 hown hK hP hD hS 0 rfl rfl 11 (by decide) (hts _ w_10_2) (fun _ h9 => h9) rfl (by decide +kernel) rfl rfl (Nat.le_of_ble_eq_true rfl) dX11_passAll_21 (fun H locs hP hD hS => ?_)
  have hP : va_P D vwCl (wM cy ad (sI t4 11 r3)) H := hP
  have hD : va_D A (wM cy ad (sI t4 11 r3)) := hD
  refine lv_aload_n hx hb dX11_passAll_24 rfl (lv_at hl 0 rfl) ?_
  refine lv_aload_n hx hb dX11_passAll_25 rfl (lv_at hl 0 rfl) ?_
  refine lv_aload_n hx hb dX11_passAll_26 rfl (lv_at hl 0 rfl) ?_
  refine va_get (D := D) (ci := 10) (v := .int (gI t4 14)) (C := RX11) (T := TX11) (N := 35) hx hb hts inlX11 hown hK hP 0 rfl rfl 14 (by decide) (hts _ w_14_2) (fun _ h9 => h9) rfl dX11_passAll_27 ?_
  refine callVI (rest := [.ref (ad 0)]) SF (c_X11_pass l D cy tz ad (sI t4 11 r3) (gI t4 14) _ h) (cw_RX11_276 hts ⟨Nat.le_of_ble_eq_true rfl, Nat.le_of_ble_eq_true rfl⟩) rfl rfl (va_recv hK hP (ci := 10) (q0 := 0) rfl rfl) hK hZ hA hP hD hS rfl hl.1 rfl (Nat.le_of_ble_eq_true rfl) dX11_passAll_30 ⟨Nat.zero_le _, Nat.zero_le _⟩ (fun r5 t6 H locs h hP hD hS => ?_)
  refine va_put (D := D) (ci := 10) (v := .int r5) (ty := .int) (C := RX11) (T := TX11) (N := 35) hx hb hts inlX11 tyX11 tyX11_ok nmX11 hown hK hP hD hS 0 rfl rfl 14 (by decide) (hts _ w_14_2) (fun _ h9 => h9) rfl (by decide +kernel) rfl rfl (Nat.le_of_ble_eq_true rfl) dX11_passAll_33 (fun H locs hP hD hS => ?_)
  have hP : va_P D vwCl (wM cy ad (sI t6 14 r5)) H := hP
  have hD : va_D A (wM cy ad (sI t6 14 r5)) := hD
  refine lv_aload_n hx hb dX11_passAll_36 rfl (lv_at hl 0 rfl) ?_
  refine lv_aload_n hx hb dX11_passAll_37 rfl (lv_at hl 0 rfl) ?_
  refine lv_aload_n hx hb dX11_passAll_38 rfl (lv_at hl 0 rfl) ?_
  refine va_get (D := D) (ci := 10) (v := .int (gI t6 27)) (C := RX11) (T := TX11) (N := 35) hx hb hts inlX11 hown hK hP 0 rfl rfl 27 (by decide) (hts _ w_29_16) (fun _ h9 => h9) rfl dX11_passAll_39 ?_
  refine callVI (rest := [.ref (ad 0)]) SF (c_X11_pass l D cy tz ad (sI t6 14 r5) (gI t6 27) _ h) (cw_RX11_276 hts ⟨Nat.le_of_ble_eq_true rfl, Nat.le_of_ble_eq_true rfl⟩) rfl rfl (va_recv hK hP (ci := 10) (q0 := 0) rfl rfl) hK hZ hA hP hD hS rfl hl.1 rfl (Nat.le_of_ble_eq_true rfl) dX11_passAll_42 ⟨Nat.zero_le _, Nat.zero_le _⟩ (fun r7 t8 H locs h hP hD hS => ?_)
  refine va_put (D := D) (ci := 10) (v := .int r7) (ty := .int) (C := RX11) (T := TX11) (N := 35) hx hb hts inlX11 tyX11 tyX11_ok nmX11 hown hK hP hD hS 0 rfl rfl 27 (by decide) (hts _ w_29_16) (fun _ h9 => h9) rfl (by decide +kernel) rfl rfl (Nat.le_of_ble_eq_true rfl) dX11_passAll_45 (fun H locs hP hD hS => ?_)
  have hP : va_P D vwCl (wM cy ad (sI t8 27 r7)) H := hP
  have hD : va_D A (wM cy ad (sI t8 27 r7)) := hD
  refine lv_iconst (v := 0) hx hb dX11_passAll_48 (by decide) ?_
  refine lv_istore_n (lv' := [(1, .int 0), (0, .ref (ad 0))]) hx hb dX11_passAll_49 rfl hl (by decide) rfl (fun ls hl => ?_)
  have loop50 : ∀ (K : St → Prop), (∀ (t16 : St) (H : Heap) (locs : List Loc) (ls : Array Slot), K t16 → va_P D vwCl (wM cy ad t16) H → va_D A (wM cy ad t16) → va_S A s.heap H locs → lv_has ls 2 [(0, .ref (ad 0))] → W p l e rm_X11_passAll s m args below meth c H locs 0 0 Q (F0 m 77 ls [])) → ∀ (n : Nat) (t10 : St) (v9 : Int32) (H : Heap) (locs : List Loc) (ls : Array Slot), wp_X11_passAll_L50 post K n t10 v9 → va_P D vwCl (wM cy ad t10) H → va_D A (wM cy ad t10) → va_S A s.heap H locs → lv_has ls 2 [(0, .ref (ad 0)), (1, .int v9)] → W p l e rm_X11_passAll s m args below meth c H locs 0 0 Q (F0 m 50 ls []) := by
    intro K hE50 n
    induction n with
    | zero => intro t10 v9 H locs ls h; exact h.elim
    | succ n ih50 =>
      intro t10 v9 H locs ls h hP hD hS hl
      rw [wp_X11_passAll_L50] at h
      refine lv_iload_n hx hb dX11_passAll_50 rfl (lv_at hl 1 rfl) ?_
      refine lv_iconst (v := 5) hx hb dX11_passAll_51 (by decide) ?_
      refine lv_icmp_ge (tgt := 77) hx hb dX11_passAll_52 (by decide) (fun c11 => ?_) (fun c11 => ?_)
      · have h := h.1 c11
        exact hE50 _ _ _ _ h hP hD hS (lv_sub hl [0] rfl)
      · have h := h.2 c11
        refine lv_aload_n hx hb dX11_passAll_55 rfl (lv_at hl 0 rfl) ?_
        refine va_get (D := D) (ci := 10) (v := .ref (ad 2)) (C := RX11) (T := TX11) (N := 35) hx hb hts inlX11 hown hK hP 0 rfl rfl 3 (by decide) (hts _ w_5_7) (fun _ h9 => h9) rfl dX11_passAll_56 ?_
        refine lv_iload_n hx hb dX11_passAll_59 rfl (lv_at hl 1 rfl) ?_
        refine lv_aload_n hx hb dX11_passAll_60 rfl (lv_at hl 0 rfl) ?_
        refine lv_aload_n hx hb dX11_passAll_61 rfl (lv_at hl 0 rfl) ?_
        refine va_get (D := D) (ci := 10) (v := .ref (ad 2)) (C := RX11) (T := TX11) (N := 35) hx hb hts inlX11 hown hK hP 0 rfl rfl 3 (by decide) (hts _ w_5_7) (fun _ h9 => h9) rfl dX11_passAll_62 ?_
        refine lv_iload_n hx hb dX11_passAll_65 rfl (lv_at hl 1 rfl) ?_
        refine va_iald (f := gA t10 3) (n := 5) hx hb hK hP 2 0 rfl rfl h.1 dX11_passAll_66 ?_
        have h := h.2
        refine callVI (rest := [.int v9, .ref (ad 2)]) SF (c_X11_pass l D cy tz ad t10 (gA t10 3 v9.toNatClampNeg) _ h) (cw_RX11_276 hts ⟨Nat.le_of_ble_eq_true rfl, Nat.le_of_ble_eq_true rfl⟩) rfl rfl (va_recv hK hP (ci := 10) (q0 := 0) rfl rfl) hK hZ hA hP hD hS rfl hl.1 rfl (Nat.le_of_ble_eq_true rfl) dX11_passAll_67 ⟨Nat.zero_le _, Nat.zero_le _⟩ (fun r12 t13 H locs h hP hD hS => ?_)
        refine va_iast (f := gA t13 3) (n := 5) hx hb hK hP hD hS 2 0 rfl rfl h.1 dX11_passAll_70 (fun H locs hP hD hS => ?_)
        have h := h.2
        have hP : va_P D vwCl (wM cy ad (sA t13 3 (upd (gA t13 3) v9.toNatClampNeg r12))) H := hP
        have hD : va_D A (wM cy ad (sA t13 3 (upd (gA t13 3) v9.toNatClampNeg r12))) := hD
        obtain ⟨x14, e15⟩ : ∃ z : Int32, z = v9 + 1 := ⟨_, rfl⟩
        have h := h x14 e15
        refine lv_iinc (v := x14) (lv' := [(1, .int x14), (0, .ref (ad 0))]) hx hb dX11_passAll_71 hl (k := 1) rfl (by rw [e15]; rfl) (by decide) rfl (fun ls hl => ?_)
        refine lv_goto (tgt := 50) hx hb dX11_passAll_74 (by decide) ?_
        exact ih50 _ _ _ _ _ h hP hD hS (lv_sub hl [1, 0] rfl)
  obtain ⟨n, h⟩ := h
  refine loop50 _ ?_ n _ _ _ _ _ h hP hD hS (lv_sub hl [1, 0] rfl)
  intro t16 H locs ls h hP hD hS hl
  refine lv_iconst (v := 0) hx hb dX11_passAll_77 (by decide) ?_
  refine lv_istore_n (lv' := [(1, .int 0), (0, .ref (ad 0))]) hx hb dX11_passAll_78 rfl hl (by decide) rfl (fun ls hl => ?_)
  have loop79 : ∀ (K : St → Prop), (∀ (t26 : St) (H : Heap) (locs : List Loc) (ls : Array Slot), K t26 → va_P D vwCl (wM cy ad t26) H → va_D A (wM cy ad t26) → va_S A s.heap H locs → lv_has ls 2 [(0, .ref (ad 0))] → W p l e rm_X11_passAll s m args below meth c H locs 0 0 Q (F0 m 123 ls [])) → ∀ (n : Nat) (t18 : St) (v17 : Int32) (H : Heap) (locs : List Loc) (ls : Array Slot), wp_X11_passAll_L79 post K n t18 v17 → va_P D vwCl (wM cy ad t18) H → va_D A (wM cy ad t18) → va_S A s.heap H locs → lv_has ls 2 [(0, .ref (ad 0)), (1, .int v17)] → W p l e rm_X11_passAll s m args below meth c H locs 0 0 Q (F0 m 79 ls []) := by
    intro K hE79 n
    induction n with
    | zero => intro t18 v17 H locs ls h; exact h.elim
    | succ n ih79 =>
      intro t18 v17 H locs ls h hP hD hS hl
      rw [wp_X11_passAll_L79] at h
      refine lv_iload_n hx hb dX11_passAll_79 rfl (lv_at hl 1 rfl) ?_
      refine lv_bipush (v := 20) hx hb dX11_passAll_80 (by decide) ?_
      refine lv_icmp_ge (tgt := 123) hx hb dX11_passAll_82 (by decide) (fun c19 => ?_) (fun c19 => ?_)
      · have h := h.1 c19
        exact hE79 _ _ _ _ h hP hD hS (lv_sub hl [0] rfl)
      · have h := h.2 c19
        refine lv_aload_n hx hb dX11_passAll_85 rfl (lv_at hl 0 rfl) ?_
        refine va_get (D := D) (ci := 10) (v := .ref (ad 6)) (C := RX11) (T := TX11) (N := 35) hx hb hts inlX11 hown hK hP 0 rfl rfl 8 (by decide) (hts _ w_5_11) (fun _ h9 => h9) rfl dX11_passAll_86 ?_
        refine lv_iload_n hx hb dX11_passAll_89 rfl (lv_at hl 1 rfl) ?_
        refine lv_aload_n hx hb dX11_passAll_90 rfl (lv_at hl 0 rfl) ?_
        refine lv_aload_n hx hb dX11_passAll_91 rfl (lv_at hl 0 rfl) ?_
        refine va_get (D := D) (ci := 10) (v := .ref (ad 6)) (C := RX11) (T := TX11) (N := 35) hx hb hts inlX11 hown hK hP 0 rfl rfl 8 (by decide) (hts _ w_5_11) (fun _ h9 => h9) rfl dX11_passAll_92 ?_
        refine lv_iload_n hx hb dX11_passAll_95 rfl (lv_at hl 1 rfl) ?_
        refine va_iald (f := gA t18 8) (n := 20) hx hb hK hP 6 0 rfl rfl h.1 dX11_passAll_96 ?_
        have h := h.2
        refine callVI (rest := [.int v17, .ref (ad 6)]) SF (c_X11_pass l D cy tz ad t18 (gA t18 8 v17.toNatClampNeg) _ h) (cw_RX11_276 hts ⟨Nat.le_of_ble_eq_true rfl, Nat.le_of_ble_eq_true rfl⟩) rfl rfl (va_recv hK hP (ci := 10) (q0 := 0) rfl rfl) hK hZ hA hP hD hS rfl hl.1 rfl (Nat.le_of_ble_eq_true rfl) dX11_passAll_97 ⟨Nat.zero_le _, Nat.zero_le _⟩ (fun r20 t21 H locs h hP hD hS => ?_)
        refine va_iast (f := gA t21 8) (n := 20) hx hb hK hP hD hS 6 0 rfl rfl h.1 dX11_passAll_100 (fun H locs hP hD hS => ?_)
        have h := h.2
        have hP : va_P D vwCl (wM cy ad (sA t21 8 (upd (gA t21 8) v17.toNatClampNeg r20))) H := hP
        have hD : va_D A (wM cy ad (sA t21 8 (upd (gA t21 8) v17.toNatClampNeg r20))) := hD
        refine lv_aload_n hx hb dX11_passAll_101 rfl (lv_at hl 0 rfl) ?_
        refine va_get (D := D) (ci := 10) (v := .ref (ad 7)) (C := RX11) (T := TX11) (N := 35) hx hb hts inlX11 hown hK hP 0 rfl rfl 9 (by decide) (hts _ w_5_12) (fun _ h9 => h9) rfl dX11_passAll_102 ?_
        refine lv_iload_n hx hb dX11_passAll_105 rfl (lv_at hl 1 rfl) ?_
        refine lv_aload_n hx hb dX11_passAll_106 rfl (lv_at hl 0 rfl) ?_
        refine lv_aload_n hx hb dX11_passAll_107 rfl (lv_at hl 0 rfl) ?_
        refine va_get (D := D) (ci := 10) (v := .ref (ad 7)) (C := RX11) (T := TX11) (N := 35) hx hb hts inlX11 hown hK hP 0 rfl rfl 9 (by decide) (hts _ w_5_12) (fun _ h9 => h9) rfl dX11_passAll_108 ?_
        refine lv_iload_n hx hb dX11_passAll_111 rfl (lv_at hl 1 rfl) ?_
        refine va_iald (f := gA t21 9) (n := 20) hx hb hK hP 7 0 rfl rfl h.1 dX11_passAll_112 ?_
        have h := h.2
        refine callVI (rest := [.int v17, .ref (ad 7)]) SF (c_X11_pass l D cy tz ad (sA t21 8 (upd (gA t21 8) v17.toNatClampNeg r20)) (gA t21 9 v17.toNatClampNeg) _ h) (cw_RX11_276 hts ⟨Nat.le_of_ble_eq_true rfl, Nat.le_of_ble_eq_true rfl⟩) rfl rfl (va_recv hK hP (ci := 10) (q0 := 0) rfl rfl) hK hZ hA hP hD hS rfl hl.1 rfl (Nat.le_of_ble_eq_true rfl) dX11_passAll_113 ⟨Nat.zero_le _, Nat.zero_le _⟩ (fun r22 t23 H locs h hP hD hS => ?_)
        refine va_iast (f := gA t23 9) (n := 20) hx hb hK hP hD hS 7 0 rfl rfl h.1 dX11_passAll_116 (fun H locs hP hD hS => ?_)
        have h := h.2
        have hP : va_P D vwCl (wM cy ad (sA t23 9 (upd (gA t23 9) v17.toNatClampNeg r22))) H := hP
        have hD : va_D A (wM cy ad (sA t23 9 (upd (gA t23 9) v17.toNatClampNeg r22))) := hD
        obtain ⟨x24, e25⟩ : ∃ z : Int32, z = v17 + 1 := ⟨_, rfl⟩
        have h := h x24 e25
        refine lv_iinc (v := x24) (lv' := [(1, .int x24), (0, .ref (ad 0))]) hx hb dX11_passAll_117 hl (k := 1) rfl (by rw [e25]; rfl) (by decide) rfl (fun ls hl => ?_)
        refine lv_goto (tgt := 79) hx hb dX11_passAll_120 (by decide) ?_
        exact ih79 _ _ _ _ _ h hP hD hS (lv_sub hl [1, 0] rfl)
  obtain ⟨n, h⟩ := h
  refine loop79 _ ?_ n _ _ _ _ _ h hP hD hS (lv_sub hl [1, 0] rfl)
  intro t26 H locs ls h hP hD hS hl
  refine lv_iconst (v := 0) hx hb dX11_passAll_123 (by decide) ?_
  refine lv_istore_n (lv' := [(1, .int 0), (0, .ref (ad 0))]) hx hb dX11_passAll_124 rfl hl (by decide) rfl (fun ls hl => ?_)
  have loop125 : ∀ (K : St → Prop), (∀ (t36 : St) (H : Heap) (locs : List Loc) (ls : Array Slot), K t36 → va_P D vwCl (wM cy ad t36) H → va_D A (wM cy ad t36) → va_S A s.heap H locs → lv_has ls 2 [(0, .ref (ad 0))] → W p l e rm_X11_passAll s m args below meth c H locs 0 0 Q (F0 m 169 ls [])) → ∀ (n : Nat) (t28 : St) (v27 : Int32) (H : Heap) (locs : List Loc) (ls : Array Slot), wp_X11_passAll_L125 post K n t28 v27 → va_P D vwCl (wM cy ad t28) H → va_D A (wM cy ad t28) → va_S A s.heap H locs → lv_has ls 2 [(0, .ref (ad 0)), (1, .int v27)] → W p l e rm_X11_passAll s m args below meth c H locs 0 0 Q (F0 m 125 ls []) := by
    intro K hE125 n
    induction n with
    | zero => intro t28 v27 H locs ls h; exact h.elim
    | succ n ih125 =>
      intro t28 v27 H locs ls h hP hD hS hl
      rw [wp_X11_passAll_L125] at h
      refine lv_iload_n hx hb dX11_passAll_125 rfl (lv_at hl 1 rfl) ?_
      refine lv_bipush (v := 8) hx hb dX11_passAll_126 (by decide) ?_
      refine lv_icmp_ge (tgt := 169) hx hb dX11_passAll_128 (by decide) (fun c29 => ?_) (fun c29 => ?_)
      · have h := h.1 c29
        exact hE125 _ _ _ _ h hP hD hS (lv_sub hl [0] rfl)
      · have h := h.2 c29
        refine lv_aload_n hx hb dX11_passAll_131 rfl (lv_at hl 0 rfl) ?_
        refine va_get (D := D) (ci := 10) (v := .ref (ad 8)) (C := RX11) (T := TX11) (N := 35) hx hb hts inlX11 hown hK hP 0 rfl rfl 12 (by decide) (hts _ w_5_13) (fun _ h9 => h9) rfl dX11_passAll_132 ?_
        refine lv_iload_n hx hb dX11_passAll_135 rfl (lv_at hl 1 rfl) ?_
        refine lv_aload_n hx hb dX11_passAll_136 rfl (lv_at hl 0 rfl) ?_
        refine lv_aload_n hx hb dX11_passAll_137 rfl (lv_at hl 0 rfl) ?_
        refine va_get (D := D) (ci := 10) (v := .ref (ad 8)) (C := RX11) (T := TX11) (N := 35) hx hb hts inlX11 hown hK hP 0 rfl rfl 12 (by decide) (hts _ w_5_13) (fun _ h9 => h9) rfl dX11_passAll_138 ?_
        refine lv_iload_n hx hb dX11_passAll_141 rfl (lv_at hl 1 rfl) ?_
        refine va_iald (f := gA t28 12) (n := 8) hx hb hK hP 8 0 rfl rfl h.1 dX11_passAll_142 ?_
        have h := h.2
        refine callVI (rest := [.int v27, .ref (ad 8)]) SF (c_X11_pass l D cy tz ad t28 (gA t28 12 v27.toNatClampNeg) _ h) (cw_RX11_276 hts ⟨Nat.le_of_ble_eq_true rfl, Nat.le_of_ble_eq_true rfl⟩) rfl rfl (va_recv hK hP (ci := 10) (q0 := 0) rfl rfl) hK hZ hA hP hD hS rfl hl.1 rfl (Nat.le_of_ble_eq_true rfl) dX11_passAll_143 ⟨Nat.zero_le _, Nat.zero_le _⟩ (fun r30 t31 H locs h hP hD hS => ?_)
        refine va_iast (f := gA t31 12) (n := 8) hx hb hK hP hD hS 8 0 rfl rfl h.1 dX11_passAll_146 (fun H locs hP hD hS => ?_)
        have h := h.2
        have hP : va_P D vwCl (wM cy ad (sA t31 12 (upd (gA t31 12) v27.toNatClampNeg r30))) H := hP
        have hD : va_D A (wM cy ad (sA t31 12 (upd (gA t31 12) v27.toNatClampNeg r30))) := hD
        refine lv_aload_n hx hb dX11_passAll_147 rfl (lv_at hl 0 rfl) ?_
        refine va_get (D := D) (ci := 10) (v := .ref (ad 9)) (C := RX11) (T := TX11) (N := 35) hx hb hts inlX11 hown hK hP 0 rfl rfl 13 (by decide) (hts _ w_5_14) (fun _ h9 => h9) rfl dX11_passAll_148 ?_
        refine lv_iload_n hx hb dX11_passAll_151 rfl (lv_at hl 1 rfl) ?_
        refine lv_aload_n hx hb dX11_passAll_152 rfl (lv_at hl 0 rfl) ?_
        refine lv_aload_n hx hb dX11_passAll_153 rfl (lv_at hl 0 rfl) ?_
        refine va_get (D := D) (ci := 10) (v := .ref (ad 9)) (C := RX11) (T := TX11) (N := 35) hx hb hts inlX11 hown hK hP 0 rfl rfl 13 (by decide) (hts _ w_5_14) (fun _ h9 => h9) rfl dX11_passAll_154 ?_
        refine lv_iload_n hx hb dX11_passAll_157 rfl (lv_at hl 1 rfl) ?_
        refine va_iald (f := gA t31 13) (n := 8) hx hb hK hP 9 0 rfl rfl h.1 dX11_passAll_158 ?_
        have h := h.2
        refine callVI (rest := [.int v27, .ref (ad 9)]) SF (c_X11_pass l D cy tz ad (sA t31 12 (upd (gA t31 12) v27.toNatClampNeg r30)) (gA t31 13 v27.toNatClampNeg) _ h) (cw_RX11_276 hts ⟨Nat.le_of_ble_eq_true rfl, Nat.le_of_ble_eq_true rfl⟩) rfl rfl (va_recv hK hP (ci := 10) (q0 := 0) rfl rfl) hK hZ hA hP hD hS rfl hl.1 rfl (Nat.le_of_ble_eq_true rfl) dX11_passAll_159 ⟨Nat.zero_le _, Nat.zero_le _⟩ (fun r32 t33 H locs h hP hD hS => ?_)
        refine va_iast (f := gA t33 13) (n := 8) hx hb hK hP hD hS 9 0 rfl rfl h.1 dX11_passAll_162 (fun H locs hP hD hS => ?_)
        have h := h.2
        have hP : va_P D vwCl (wM cy ad (sA t33 13 (upd (gA t33 13) v27.toNatClampNeg r32))) H := hP
        have hD : va_D A (wM cy ad (sA t33 13 (upd (gA t33 13) v27.toNatClampNeg r32))) := hD
        obtain ⟨x34, e35⟩ : ∃ z : Int32, z = v27 + 1 := ⟨_, rfl⟩
        have h := h x34 e35
        refine lv_iinc (v := x34) (lv' := [(1, .int x34), (0, .ref (ad 0))]) hx hb dX11_passAll_163 hl (k := 1) rfl (by rw [e35]; rfl) (by decide) rfl (fun ls hl => ?_)
        refine lv_goto (tgt := 125) hx hb dX11_passAll_166 (by decide) ?_
        exact ih125 _ _ _ _ _ h hP hD hS (lv_sub hl [1, 0] rfl)
  obtain ⟨n, h⟩ := h
  refine loop125 _ ?_ n _ _ _ _ _ h hP hD hS (lv_sub hl [1, 0] rfl)
  intro t36 H locs ls h hP hD hS hl
  refine lv_iconst (v := 0) hx hb dX11_passAll_169 (by decide) ?_
  refine lv_istore_n (lv' := [(1, .int 0), (0, .ref (ad 0))]) hx hb dX11_passAll_170 rfl hl (by decide) rfl (fun ls hl => ?_)
  have loop171 : ∀ (K : St → Prop), (∀ (t46 : St) (H : Heap) (locs : List Loc) (ls : Array Slot), K t46 → va_P D vwCl (wM cy ad t46) H → va_D A (wM cy ad t46) → va_S A s.heap H locs → lv_has ls 2 [] → W p l e rm_X11_passAll s m args below meth c H locs 0 0 Q (F0 m 215 ls [])) → ∀ (n : Nat) (t38 : St) (v37 : Int32) (H : Heap) (locs : List Loc) (ls : Array Slot), wp_X11_passAll_L171 post K n t38 v37 → va_P D vwCl (wM cy ad t38) H → va_D A (wM cy ad t38) → va_S A s.heap H locs → lv_has ls 2 [(0, .ref (ad 0)), (1, .int v37)] → W p l e rm_X11_passAll s m args below meth c H locs 0 0 Q (F0 m 171 ls []) := by
    intro K hE171 n
    induction n with
    | zero => intro t38 v37 H locs ls h; exact h.elim
    | succ n ih171 =>
      intro t38 v37 H locs ls h hP hD hS hl
      rw [wp_X11_passAll_L171] at h
      refine lv_iload_n hx hb dX11_passAll_171 rfl (lv_at hl 1 rfl) ?_
      refine lv_bipush (v := 24) hx hb dX11_passAll_172 (by decide) ?_
      refine lv_icmp_ge (tgt := 215) hx hb dX11_passAll_174 (by decide) (fun c39 => ?_) (fun c39 => ?_)
      · have h := h.1 c39
        exact hE171 _ _ _ _ h hP hD hS (lv_sub hl [] rfl)
      · have h := h.2 c39
        refine lv_aload_n hx hb dX11_passAll_177 rfl (lv_at hl 0 rfl) ?_
        refine va_get (D := D) (ci := 10) (v := .ref (ad 13)) (C := RX11) (T := TX11) (N := 35) hx hb hts inlX11 hown hK hP 0 rfl rfl 25 (by decide) (hts _ w_5_19) (fun _ h9 => h9) rfl dX11_passAll_178 ?_
        refine lv_iload_n hx hb dX11_passAll_181 rfl (lv_at hl 1 rfl) ?_
        refine lv_aload_n hx hb dX11_passAll_182 rfl (lv_at hl 0 rfl) ?_
        refine lv_aload_n hx hb dX11_passAll_183 rfl (lv_at hl 0 rfl) ?_
        refine va_get (D := D) (ci := 10) (v := .ref (ad 13)) (C := RX11) (T := TX11) (N := 35) hx hb hts inlX11 hown hK hP 0 rfl rfl 25 (by decide) (hts _ w_5_19) (fun _ h9 => h9) rfl dX11_passAll_184 ?_
        refine lv_iload_n hx hb dX11_passAll_187 rfl (lv_at hl 1 rfl) ?_
        refine va_iald (f := gA t38 25) (n := 24) hx hb hK hP 13 0 rfl rfl h.1 dX11_passAll_188 ?_
        have h := h.2
        refine callVI (rest := [.int v37, .ref (ad 13)]) SF (c_X11_pass l D cy tz ad t38 (gA t38 25 v37.toNatClampNeg) _ h) (cw_RX11_276 hts ⟨Nat.le_of_ble_eq_true rfl, Nat.le_of_ble_eq_true rfl⟩) rfl rfl (va_recv hK hP (ci := 10) (q0 := 0) rfl rfl) hK hZ hA hP hD hS rfl hl.1 rfl (Nat.le_of_ble_eq_true rfl) dX11_passAll_189 ⟨Nat.zero_le _, Nat.zero_le _⟩ (fun r40 t41 H locs h hP hD hS => ?_)
        refine va_iast (f := gA t41 25) (n := 24) hx hb hK hP hD hS 13 0 rfl rfl h.1 dX11_passAll_192 (fun H locs hP hD hS => ?_)
        have h := h.2
        have hP : va_P D vwCl (wM cy ad (sA t41 25 (upd (gA t41 25) v37.toNatClampNeg r40))) H := hP
        have hD : va_D A (wM cy ad (sA t41 25 (upd (gA t41 25) v37.toNatClampNeg r40))) := hD
        refine lv_aload_n hx hb dX11_passAll_193 rfl (lv_at hl 0 rfl) ?_
        refine va_get (D := D) (ci := 10) (v := .ref (ad 14)) (C := RX11) (T := TX11) (N := 35) hx hb hts inlX11 hown hK hP 0 rfl rfl 26 (by decide) (hts _ w_5_20) (fun _ h9 => h9) rfl dX11_passAll_194 ?_
        refine lv_iload_n hx hb dX11_passAll_197 rfl (lv_at hl 1 rfl) ?_
        refine lv_aload_n hx hb dX11_passAll_198 rfl (lv_at hl 0 rfl) ?_
        refine lv_aload_n hx hb dX11_passAll_199 rfl (lv_at hl 0 rfl) ?_
        refine va_get (D := D) (ci := 10) (v := .ref (ad 14)) (C := RX11) (T := TX11) (N := 35) hx hb hts inlX11 hown hK hP 0 rfl rfl 26 (by decide) (hts _ w_5_20) (fun _ h9 => h9) rfl dX11_passAll_200 ?_
        refine lv_iload_n hx hb dX11_passAll_203 rfl (lv_at hl 1 rfl) ?_
        refine va_iald (f := gA t41 26) (n := 24) hx hb hK hP 14 0 rfl rfl h.1 dX11_passAll_204 ?_
        have h := h.2
        refine callVI (rest := [.int v37, .ref (ad 14)]) SF (c_X11_pass l D cy tz ad (sA t41 25 (upd (gA t41 25) v37.toNatClampNeg r40)) (gA t41 26 v37.toNatClampNeg) _ h) (cw_RX11_276 hts ⟨Nat.le_of_ble_eq_true rfl, Nat.le_of_ble_eq_true rfl⟩) rfl rfl (va_recv hK hP (ci := 10) (q0 := 0) rfl rfl) hK hZ hA hP hD hS rfl hl.1 rfl (Nat.le_of_ble_eq_true rfl) dX11_passAll_205 ⟨Nat.zero_le _, Nat.zero_le _⟩ (fun r42 t43 H locs h hP hD hS => ?_)
        refine va_iast (f := gA t43 26) (n := 24) hx hb hK hP hD hS 14 0 rfl rfl h.1 dX11_passAll_208 (fun H locs hP hD hS => ?_)
        have h := h.2
        have hP : va_P D vwCl (wM cy ad (sA t43 26 (upd (gA t43 26) v37.toNatClampNeg r42))) H := hP
        have hD : va_D A (wM cy ad (sA t43 26 (upd (gA t43 26) v37.toNatClampNeg r42))) := hD
        obtain ⟨x44, e45⟩ : ∃ z : Int32, z = v37 + 1 := ⟨_, rfl⟩
        have h := h x44 e45
        refine lv_iinc (v := x44) (lv' := [(1, .int x44), (0, .ref (ad 0))]) hx hb dX11_passAll_209 hl (k := 1) rfl (by rw [e45]; rfl) (by decide) rfl (fun ls hl => ?_)
        refine lv_goto (tgt := 171) hx hb dX11_passAll_212 (by decide) ?_
        exact ih171 _ _ _ _ _ h hP hD hS (lv_sub hl [1, 0] rfl)
  obtain ⟨n, h⟩ := h
  refine loop171 _ ?_ n _ _ _ _ _ h hP hD hS (lv_sub hl [1, 0] rfl)
  intro t46 H locs ls h hP hD hS hl
  exact hret _ _ _ _ _ h hP hD hS dX11_passAll_215
-- X11_image
def rm_X11_image : Room := { frames := 2, cells := 0, slots := 0, locals := 45 }
abbrev ws_X11_image : List Cond := .code yX11_image cX11_image 2 (some .int) :: wsL_law
theorem cw_RX11_279 {R : Room} {s : State} {args : Array Value} (hts : ∀ w ∈ wsL_law, w.before args s = true) (hR : rm_X11_passAll.frames + 1 ≤ R.frames ∧ 8 + (2 + 11) + rm_X11_passAll.locals ≤ R.locals) : CallW R s args RX11 RX11 279 yX11_passAll cX11_passAll 2 none ws_X11_passAll rm_X11_passAll rm_X11_passAll.cells rm_X11_passAll.slots 0 := cwV 0 hts (gdV w_37_4 w_37_5 w_37_6 w_1_5 w_37_7) rfl rfl rfl (by decide +kernel) hR
def wp_X11_image (st : St) (a1 : Int32) (post : Int32 → St → Prop) : Prop := wp_X11_isEnd a1 (fun r1 => ((¬ r1 = 0) → (∀ x4 : Int32, x4 = (140 * a1) → (wp_X11_passAll (sI (sI st 33 x4) 34 1) (fun t7 => vp_in a1 2 ∧ (post 1 (sA t7 32 (upd (gA t7 32) a1.toNatClampNeg (vp_nar .boolean 1)))))))) ∧ ((r1 = 0) → (post (-2) st)))
set_option maxHeartbeats 4000000 in
set_option maxRecDepth 100000 in
theorem c_X11_image (l : Launch) (D : va_G) (cy : Nat → ClassId) (tz : Nat → Nat) (ad : Nat → Nat) (st : St) (a1 : Int32) (post : Int32 → St → Prop) (h : wp_X11_image st a1 post) : CtI l D cy tz yX11_image ws_X11_image rm_X11_image [.ref (ad 0), .int a1] (wM cy ad st) (wM cy ad) post := by
  refine CtI.of (own := RX11) (nm := "image") (lv := [(0, .ref (ad 0)), (1, .int a1)]) (plainFor_of_name (by decide)) rfl rfl (Nat.le_of_ble_eq_true rfl) rfl ?_
  intro p e s m args below meth c A Q ls B hP hD hS hl hret
  obtain ⟨hx, hb, hml, hown, hts, hK, hZ, hA, hnm⟩ := B
  have SF : CallFix p m c cX11_image 2 s args wsL_law RX11 := ⟨hx, hb, hml, hown, hts⟩
  unfold wp_X11_image at h
  refine lv_iload_n hx hb dX11_image_0 rfl (lv_at hl 1 rfl) ?_
  refine callSIr (rest := []) SF (c_X11_isEnd l D cy tz _ a1 _ h) (cw_RX11_121 hts ⟨Nat.le_of_ble_eq_true rfl, Nat.le_of_ble_eq_true rfl⟩) rfl rfl hK hZ hA hP hD hS rfl hl.1 rfl (Nat.le_of_ble_eq_true rfl) dX11_image_1 ⟨Nat.zero_le _, Nat.zero_le _⟩ (fun r1 H locs h hP hD hS => ?_)
  refine lv_if_ne (tgt := 10) hx hb dX11_image_4 (by decide) (fun c3 => ?_) (fun c3 => ?_)
  · have h := h.1 c3
    refine lv_aload_n hx hb dX11_image_10 rfl (lv_at hl 0 rfl) ?_
    refine lv_sipush (v := 140) hx hb dX11_image_11 (by decide) ?_
    refine lv_iload_n hx hb dX11_image_14 rfl (lv_at hl 1 rfl) ?_
    refine lv_imul hx hb dX11_image_15 ?_
    refine lv_topi (fun x4 e5 => ?_)
    have h := h x4 e5
    refine va_put (D := D) (ci := 10) (v := .int x4) (ty := .int) (C := RX11) (T := TX11) (N := 35) hx hb hts inlX11 tyX11 tyX11_ok nmX11 hown hK hP hD hS 0 rfl rfl 33 (by decide) (hts _ w_37_2) (fun _ h9 => h9) rfl (by decide +kernel) rfl rfl (Nat.le_of_ble_eq_true rfl) dX11_image_16 (fun H locs hP hD hS => ?_)
    have hP : va_P D vwCl (wM cy ad (sI st 33 x4)) H := hP
    have hD : va_D A (wM cy ad (sI st 33 x4)) := hD
    refine lv_aload_n hx hb dX11_image_19 rfl (lv_at hl 0 rfl) ?_
    refine lv_iconst (v := 1) hx hb dX11_image_20 (by decide) ?_
    refine va_put (D := D) (ci := 10) (v := .int 1) (ty := .boolean) (C := RX11) (T := TX11) (N := 35) hx hb hts inlX11 tyX11 tyX11_ok nmX11 hown hK hP hD hS 0 rfl rfl 34 (by decide) (hts _ w_37_3) (fun _ h9 => h9) rfl (by decide +kernel) rfl rfl (Nat.le_of_ble_eq_true rfl) dX11_image_21 (fun H locs hP hD hS => ?_)
    have hP : va_P D vwCl (wM cy ad (sI (sI st 33 x4) 34 1)) H := hP
    have hD : va_D A (wM cy ad (sI (sI st 33 x4) 34 1)) := hD
    refine lv_aload_n hx hb dX11_image_24 rfl (lv_at hl 0 rfl) ?_
    refine callVV (rest := []) SF (c_X11_passAll l D cy tz ad (sI (sI st 33 x4) 34 1) _ h) (cw_RX11_279 hts ⟨Nat.le_of_ble_eq_true rfl, Nat.le_of_ble_eq_true rfl⟩) rfl rfl (va_recv hK hP (ci := 10) (q0 := 0) rfl rfl) hK hZ hA hP hD hS rfl hl.1 rfl (Nat.le_of_ble_eq_true rfl) dX11_image_25 ⟨Nat.zero_le _, Nat.zero_le _⟩ (fun t7 H locs h hP hD hS => ?_)
    refine lv_aload_n hx hb dX11_image_28 rfl (lv_at hl 0 rfl) ?_
    refine va_get (D := D) (ci := 10) (v := .ref (ad 18)) (C := RX11) (T := TX11) (N := 35) hx hb hts inlX11 hown hK hP 0 rfl rfl 32 (by decide) (hts _ w_6_0) (fun _ h9 => h9) rfl dX11_image_29 ?_
    refine lv_iload_n hx hb dX11_image_32 rfl (lv_at hl 1 rfl) ?_
    refine lv_iconst (v := 1) hx hb dX11_image_33 (by decide) ?_
    refine va_zast (f := gA t7 32) (n := 2) hx hb hK hP hD hS 18 2 rfl rfl h.1 dX11_image_34 (fun H locs hP hD hS => ?_)
    have h := h.2
    have hP : va_P D vwCl (wM cy ad (sA t7 32 (upd (gA t7 32) a1.toNatClampNeg (vp_nar .boolean 1)))) H := hP
    have hD : va_D A (wM cy ad (sA t7 32 (upd (gA t7 32) a1.toNatClampNeg (vp_nar .boolean 1)))) := hD
    refine lv_iconst (v := 1) hx hb dX11_image_35 (by decide) ?_
    exact hret _ _ _ _ _ _ rfl h hP hD hS dX11_image_36
  · have h := h.2 c3
    refine lv_bipush (v := (-2)) hx hb dX11_image_7 (by decide) ?_
    exact hret _ _ _ _ _ _ rfl h hP hD hS dX11_image_9
-- X11_restore
def rm_X11_restore : Room := { frames := 2, cells := 0, slots := 0, locals := 45 }
abbrev ws_X11_restore : List Cond := .code yX11_restore cX11_restore 2 (some .int) :: wsL_law
def wp_X11_restore (st : St) (a1 : Int32) (post : Int32 → St → Prop) : Prop := wp_X11_isEnd a1 (fun r1 => ((¬ r1 = 0) → (vp_in a1 2 ∧ (((¬ (gA st 32 a1.toNatClampNeg) = 0) → (∀ x5 : Int32, x5 = (140 * a1) → (wp_X11_passAll (sI (sI st 33 x5) 34 0) (fun t8 => post 1 t8)))) ∧ (((gA st 32 a1.toNatClampNeg) = 0) → (post (-3) st))))) ∧ ((r1 = 0) → (post (-2) st)))
set_option maxHeartbeats 4000000 in
set_option maxRecDepth 100000 in
theorem c_X11_restore (l : Launch) (D : va_G) (cy : Nat → ClassId) (tz : Nat → Nat) (ad : Nat → Nat) (st : St) (a1 : Int32) (post : Int32 → St → Prop) (h : wp_X11_restore st a1 post) : CtI l D cy tz yX11_restore ws_X11_restore rm_X11_restore [.ref (ad 0), .int a1] (wM cy ad st) (wM cy ad) post := by
  refine CtI.of (own := RX11) (nm := "restore") (lv := [(0, .ref (ad 0)), (1, .int a1)]) (plainFor_of_name (by decide)) rfl rfl (Nat.le_of_ble_eq_true rfl) rfl ?_
  intro p e s m args below meth c A Q ls B hP hD hS hl hret
  obtain ⟨hx, hb, hml, hown, hts, hK, hZ, hA, hnm⟩ := B
  have SF : CallFix p m c cX11_restore 2 s args wsL_law RX11 := ⟨hx, hb, hml, hown, hts⟩
  unfold wp_X11_restore at h
  refine lv_iload_n hx hb dX11_restore_0 rfl (lv_at hl 1 rfl) ?_
  refine callSIr (rest := []) SF (c_X11_isEnd l D cy tz _ a1 _ h) (cw_RX11_121 hts ⟨Nat.le_of_ble_eq_true rfl, Nat.le_of_ble_eq_true rfl⟩) rfl rfl hK hZ hA hP hD hS rfl hl.1 rfl (Nat.le_of_ble_eq_true rfl) dX11_restore_1 ⟨Nat.zero_le _, Nat.zero_le _⟩ (fun r1 H locs h hP hD hS => ?_)
  refine lv_if_ne (tgt := 10) hx hb dX11_restore_4 (by decide) (fun c3 => ?_) (fun c3 => ?_)
  · have h := h.1 c3
    refine lv_aload_n hx hb dX11_restore_10 rfl (lv_at hl 0 rfl) ?_
    refine va_get (D := D) (ci := 10) (v := .ref (ad 18)) (C := RX11) (T := TX11) (N := 35) hx hb hts inlX11 hown hK hP 0 rfl rfl 32 (by decide) (hts _ w_6_0) (fun _ h9 => h9) rfl dX11_restore_11 ?_
    refine lv_iload_n hx hb dX11_restore_14 rfl (lv_at hl 1 rfl) ?_
    refine va_zald (f := gA st 32) (n := 2) hx hb hK hP 18 2 rfl rfl h.1 dX11_restore_15 ?_
    have h := h.2
    refine lv_if_ne (tgt := 22) hx hb dX11_restore_16 (by decide) (fun c4 => ?_) (fun c4 => ?_)
    · have h := h.1 c4
      refine lv_aload_n hx hb dX11_restore_22 rfl (lv_at hl 0 rfl) ?_
      refine lv_sipush (v := 140) hx hb dX11_restore_23 (by decide) ?_
      refine lv_iload_n hx hb dX11_restore_26 rfl (lv_at hl 1 rfl) ?_
      refine lv_imul hx hb dX11_restore_27 ?_
      refine lv_topi (fun x5 e6 => ?_)
      have h := h x5 e6
      refine va_put (D := D) (ci := 10) (v := .int x5) (ty := .int) (C := RX11) (T := TX11) (N := 35) hx hb hts inlX11 tyX11 tyX11_ok nmX11 hown hK hP hD hS 0 rfl rfl 33 (by decide) (hts _ w_37_2) (fun _ h9 => h9) rfl (by decide +kernel) rfl rfl (Nat.le_of_ble_eq_true rfl) dX11_restore_28 (fun H locs hP hD hS => ?_)
      have hP : va_P D vwCl (wM cy ad (sI st 33 x5)) H := hP
      have hD : va_D A (wM cy ad (sI st 33 x5)) := hD
      refine lv_aload_n hx hb dX11_restore_31 rfl (lv_at hl 0 rfl) ?_
      refine lv_iconst (v := 0) hx hb dX11_restore_32 (by decide) ?_
      refine va_put (D := D) (ci := 10) (v := .int 0) (ty := .boolean) (C := RX11) (T := TX11) (N := 35) hx hb hts inlX11 tyX11 tyX11_ok nmX11 hown hK hP hD hS 0 rfl rfl 34 (by decide) (hts _ w_37_3) (fun _ h9 => h9) rfl (by decide +kernel) rfl rfl (Nat.le_of_ble_eq_true rfl) dX11_restore_33 (fun H locs hP hD hS => ?_)
      have hP : va_P D vwCl (wM cy ad (sI (sI st 33 x5) 34 0)) H := hP
      have hD : va_D A (wM cy ad (sI (sI st 33 x5) 34 0)) := hD
      refine lv_aload_n hx hb dX11_restore_36 rfl (lv_at hl 0 rfl) ?_
      refine callVV (rest := []) SF (c_X11_passAll l D cy tz ad (sI (sI st 33 x5) 34 0) _ h) (cw_RX11_279 hts ⟨Nat.le_of_ble_eq_true rfl, Nat.le_of_ble_eq_true rfl⟩) rfl rfl (va_recv hK hP (ci := 10) (q0 := 0) rfl rfl) hK hZ hA hP hD hS rfl hl.1 rfl (Nat.le_of_ble_eq_true rfl) dX11_restore_37 ⟨Nat.zero_le _, Nat.zero_le _⟩ (fun t8 H locs h hP hD hS => ?_)
      refine lv_iconst (v := 1) hx hb dX11_restore_40 (by decide) ?_
      exact hret _ _ _ _ _ _ rfl h hP hD hS dX11_restore_41
    · have h := h.2 c4
      refine lv_bipush (v := (-3)) hx hb dX11_restore_19 (by decide) ?_
      exact hret _ _ _ _ _ _ rfl h hP hD hS dX11_restore_21
  · have h := h.2 c3
    refine lv_bipush (v := (-2)) hx hb dX11_restore_7 (by decide) ?_
    exact hret _ _ _ _ _ _ rfl h hP hD hS dX11_restore_9
-- X11_told
def rm_X11_told : Room := { frames := 1, cells := 0, slots := 0, locals := 25 }
abbrev ws_X11_told : List Cond := .code yX11_told cX11_told 2 (some .int) :: wsL_law
def wp_X11_told (st : St) (a1 : Int32) (post : Int32 → Prop) : Prop := wp_X11_in a1.toInt64 4 8 (fun r1 => ((r1 = 0) → (((a1.toInt < 0 ∨ 3 < a1.toInt) → (post (-2))) ∧ ((a1.toInt = 0) → (post (gI st 7))) ∧ ((a1.toInt = 1) → (post (gI st 11))) ∧ ((a1.toInt = 2) → (post (gI st 14))) ∧ ((a1.toInt = 3) → (post (gI st 27))))) ∧ ((¬ r1 = 0) → (wp_X11_setNow st (a1 - 4) (fun r5 => post r5))))
set_option maxHeartbeats 4000000 in
set_option maxRecDepth 100000 in
theorem c_X11_told (l : Launch) (D : va_G) (cy : Nat → ClassId) (tz : Nat → Nat) (ad : Nat → Nat) (st : St) (a1 : Int32) (post : Int32 → Prop) (h : wp_X11_told st a1 post) : CtI l D cy tz yX11_told ws_X11_told rm_X11_told [.ref (ad 0), .int a1] (wM cy ad st) (fun _ : Unit => wM cy ad st) (fun r _ => post r) := by
  refine CtI.of (own := RX11) (nm := "told") (lv := [(0, .ref (ad 0)), (1, .int a1)]) (plainFor_of_name (by decide)) rfl rfl (Nat.le_of_ble_eq_true rfl) rfl ?_
  intro p e s m args below meth c A Q ls B hP hD hS hl hret
  obtain ⟨hx, hb, hml, hown, hts, hK, hZ, hA, hnm⟩ := B
  have SF : CallFix p m c cX11_told 2 s args wsL_law RX11 := ⟨hx, hb, hml, hown, hts⟩
  unfold wp_X11_told at h
  refine lv_iload_n hx hb dX11_told_0 rfl (lv_at hl 1 rfl) ?_
  refine lv_i2l (v := a1.toInt64) hx hb dX11_told_1 rfl ?_
  refine lv_ldc2 (v := 4) hx hb hown (hts _ w_6_17) dX11_told_2 ?_
  refine lv_ldc2 (v := 8) hx hb hown (hts _ w_38_4) dX11_told_5 ?_
  refine callSIr (rest := []) SF (c_X11_in l D cy tz _ a1.toInt64 4 8 _ h) (cw_RX11_67 hts ⟨Nat.le_of_ble_eq_true rfl, Nat.le_of_ble_eq_true rfl⟩) rfl rfl hK hZ hA hP hD hS rfl hl.1 rfl (Nat.le_of_ble_eq_true rfl) dX11_told_8 ⟨Nat.zero_le _, Nat.zero_le _⟩ (fun r1 H locs h hP hD hS => ?_)
  refine lv_if_eq (tgt := 22) hx hb dX11_told_11 (by decide) (fun c3 => ?_) (fun c3 => ?_)
  · have h := h.1 c3
    refine lv_iload_n hx hb dX11_told_22 rfl (lv_at hl 1 rfl) ?_
    rcases (show ((a1.toInt < 0 ∨ 3 < a1.toInt) ∨ a1.toInt = 0 ∨ a1.toInt = 1 ∨ a1.toInt = 2 ∨ a1.toInt = 3) by omega) with c4 | c4 | c4 | c4 | c4
    · have h := h.1 c4
      refine lv_tableOut (tgt := 72) hx hb dX11_told_23 c4 (by decide) ?_
      refine lv_bipush (v := (-2)) hx hb dX11_told_72 (by decide) ?_
      exact hret _ () _ _ _ _ rfl h hP hD hS dX11_told_74
    · have h := h.2.1 c4
      refine lv_tableIn (off := 29) (tgt := 52) hx hb dX11_told_23 (by omega) (by omega) (by rw [c4]; rfl) (by decide) ?_
      refine lv_aload_n hx hb dX11_told_52 rfl (lv_at hl 0 rfl) ?_
      refine va_get (D := D) (ci := 10) (v := .int (gI st 7)) (C := RX11) (T := TX11) (N := 35) hx hb hts inlX11 hown hK hP 0 rfl rfl 7 (by decide) (hts _ w_7_18) (fun _ h9 => h9) rfl dX11_told_53 ?_
      exact hret _ () _ _ _ _ rfl h hP hD hS dX11_told_56
    · have h := h.2.2.1 c4
      refine lv_tableIn (off := 34) (tgt := 57) hx hb dX11_told_23 (by omega) (by omega) (by rw [c4]; rfl) (by decide) ?_
      refine lv_aload_n hx hb dX11_told_57 rfl (lv_at hl 0 rfl) ?_
      refine va_get (D := D) (ci := 10) (v := .int (gI st 11)) (C := RX11) (T := TX11) (N := 35) hx hb hts inlX11 hown hK hP 0 rfl rfl 11 (by decide) (hts _ w_10_2) (fun _ h9 => h9) rfl dX11_told_58 ?_
      exact hret _ () _ _ _ _ rfl h hP hD hS dX11_told_61
    · have h := h.2.2.2.1 c4
      refine lv_tableIn (off := 39) (tgt := 62) hx hb dX11_told_23 (by omega) (by omega) (by rw [c4]; rfl) (by decide) ?_
      refine lv_aload_n hx hb dX11_told_62 rfl (lv_at hl 0 rfl) ?_
      refine va_get (D := D) (ci := 10) (v := .int (gI st 14)) (C := RX11) (T := TX11) (N := 35) hx hb hts inlX11 hown hK hP 0 rfl rfl 14 (by decide) (hts _ w_14_2) (fun _ h9 => h9) rfl dX11_told_63 ?_
      exact hret _ () _ _ _ _ rfl h hP hD hS dX11_told_66
    · have h := h.2.2.2.2 c4
      refine lv_tableIn (off := 44) (tgt := 67) hx hb dX11_told_23 (by omega) (by omega) (by rw [c4]; rfl) (by decide) ?_
      refine lv_aload_n hx hb dX11_told_67 rfl (lv_at hl 0 rfl) ?_
      refine va_get (D := D) (ci := 10) (v := .int (gI st 27)) (C := RX11) (T := TX11) (N := 35) hx hb hts inlX11 hown hK hP 0 rfl rfl 27 (by decide) (hts _ w_29_16) (fun _ h9 => h9) rfl dX11_told_68 ?_
      exact hret _ () _ _ _ _ rfl h hP hD hS dX11_told_71
  · have h := h.2 c3
    refine lv_aload_n hx hb dX11_told_14 rfl (lv_at hl 0 rfl) ?_
    refine lv_iload_n hx hb dX11_told_15 rfl (lv_at hl 1 rfl) ?_
    refine lv_iconst (v := 4) hx hb dX11_told_16 (by decide) ?_
    refine lv_isub hx hb dX11_told_17 ?_
    refine callVIr (rest := []) SF (c_X11_setNow l D cy tz ad st (a1 - 4) _ h) (cw_RX11_84 hts ⟨Nat.le_of_ble_eq_true rfl, Nat.le_of_ble_eq_true rfl⟩) rfl rfl (va_recv hK hP (ci := 10) (q0 := 0) rfl rfl) hK hZ hA hP hD hS rfl hl.1 rfl (Nat.le_of_ble_eq_true rfl) dX11_told_18 ⟨Nat.zero_le _, Nat.zero_le _⟩ (fun r5 H locs h hP hD hS => ?_)
    exact hret _ () _ _ _ _ rfl h hP hD hS dX11_told_21
