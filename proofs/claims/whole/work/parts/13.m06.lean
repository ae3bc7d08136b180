-- X11_set
def rm_X11_set : Room := { frames := 1, cells := 0, slots := 0, locals := 25 }
abbrev ws_X11_set : List Cond := .code yX11_set cX11_set 6 (some .int) :: wsL_law
theorem cw_RX11_84 {R : Room} {s : State} {args : Array Value} (hts : ∀ w ∈ wsL_law, w.before args s = true) (hR : rm_X11_setNow.frames + 1 ≤ R.frames ∧ 8 + (2 + 11) + rm_X11_setNow.locals ≤ R.locals) : CallW R s args RX11 RX11 84 yX11_setNow cX11_setNow 2 (some .int) ws_X11_setNow rm_X11_setNow rm_X11_setNow.cells rm_X11_setNow.slots 1 := cwV 1 hts (gdV w_6_21 w_6_22 w_6_23 w_1_5 w_7_0) rfl rfl rfl (by decide +kernel) hR
def wp_X11_set (st : St) (a1 : Int32) (a2 : Int32) (post : Int32 → St → Prop) : Prop := ((¬ a1 = 0) → (((¬ a1 = 4) → (((¬ a1 = 0) → (((¬ a1 = 1) → (((¬ a1 = 2) → (((¬ a1 = 3) → (wp_X11_in a1.toInt64 0 4 (fun r7 => ((r7 = 0) → (post (-2) st)) ∧ ((¬ r7 = 0) → (wp_X11_in a2.toInt64 ((0 : Int32).toInt64) ((1000 : Int32).toInt64) (fun r10 => ((¬ r10 = 0) → (wp_X11_setNow st a1 (fun r13 => ((¬ a1 = 0) → (vp_in a1 5 ∧ (post r13 (sA st 3 (upd (gA st 3) a1.toNatClampNeg a2))))) ∧ ((a1 = 0) → (∀ x16 : Int32, x16 = (a2 - 100) → (vp_in a1 5 ∧ (post r13 (sA st 3 (upd (gA st 3) a1.toNatClampNeg x16))))))))) ∧ ((r10 = 0) → (post (-2) st)))))))) ∧ ((a1 = 3) → (wp_X11_in a1.toInt64 0 4 (fun r18 => ((r18 = 0) → (post (-2) st)) ∧ ((¬ r18 = 0) → (wp_X11_in a2.toInt64 ((0 : Int32).toInt64) ((100 : Int32).toInt64) (fun r21 => ((¬ r21 = 0) → (wp_X11_setNow st a1 (fun r24 => ((¬ a1 = 0) → (vp_in a1 5 ∧ (post r24 (sA st 3 (upd (gA st 3) a1.toNatClampNeg a2))))) ∧ ((a1 = 0) → (∀ x27 : Int32, x27 = (a2 - 100) → (vp_in a1 5 ∧ (post r24 (sA st 3 (upd (gA st 3) a1.toNatClampNeg x27))))))))) ∧ ((r21 = 0) → (post (-2) st)))))))))) ∧ ((a1 = 2) → (wp_X11_in a1.toInt64 0 4 (fun r29 => ((r29 = 0) → (post (-2) st)) ∧ ((¬ r29 = 0) → (wp_X11_in a2.toInt64 ((0 : Int32).toInt64) ((200 : Int32).toInt64) (fun r32 => ((¬ r32 = 0) → (wp_X11_setNow st a1 (fun r35 => ((¬ a1 = 0) → (vp_in a1 5 ∧ (post r35 (sA st 3 (upd (gA st 3) a1.toNatClampNeg a2))))) ∧ ((a1 = 0) → (∀ x38 : Int32, x38 = (a2 - 100) → (vp_in a1 5 ∧ (post r35 (sA st 3 (upd (gA st 3) a1.toNatClampNeg x38))))))))) ∧ ((r32 = 0) → (post (-2) st)))))))))) ∧ ((a1 = 1) → (wp_X11_in a1.toInt64 0 4 (fun r40 => ((r40 = 0) → (post (-2) st)) ∧ ((¬ r40 = 0) → (wp_X11_in a2.toInt64 ((0 : Int32).toInt64) ((9 : Int32).toInt64) (fun r43 => ((¬ r43 = 0) → (wp_X11_setNow st a1 (fun r46 => ((¬ a1 = 0) → (vp_in a1 5 ∧ (post r46 (sA st 3 (upd (gA st 3) a1.toNatClampNeg a2))))) ∧ ((a1 = 0) → (∀ x49 : Int32, x49 = (a2 - 100) → (vp_in a1 5 ∧ (post r46 (sA st 3 (upd (gA st 3) a1.toNatClampNeg x49))))))))) ∧ ((r43 = 0) → (post (-2) st)))))))))) ∧ ((a1 = 0) → (wp_X11_in a1.toInt64 0 4 (fun r51 => ((r51 = 0) → (post (-2) st)) ∧ ((¬ r51 = 0) → (wp_X11_in a2.toInt64 ((0 : Int32).toInt64) ((199 : Int32).toInt64) (fun r54 => ((¬ r54 = 0) → (wp_X11_setNow st a1 (fun r57 => ((¬ a1 = 0) → (vp_in a1 5 ∧ (post r57 (sA st 3 (upd (gA st 3) a1.toNatClampNeg a2))))) ∧ ((a1 = 0) → (∀ x60 : Int32, x60 = (a2 - 100) → (vp_in a1 5 ∧ (post r57 (sA st 3 (upd (gA st 3) a1.toNatClampNeg x60))))))))) ∧ ((r54 = 0) → (post (-2) st)))))))))) ∧ ((a1 = 4) → (((¬ a1 = 0) → (((¬ a1 = 1) → (((¬ a1 = 2) → (((¬ a1 = 3) → (wp_X11_in a1.toInt64 0 4 (fun r66 => ((r66 = 0) → (post (-2) st)) ∧ ((¬ r66 = 0) → (wp_X11_in a2.toInt64 ((100 : Int32).toInt64) ((1000 : Int32).toInt64) (fun r69 => ((¬ r69 = 0) → (wp_X11_setNow st a1 (fun r72 => ((¬ a1 = 0) → (vp_in a1 5 ∧ (post r72 (sA st 3 (upd (gA st 3) a1.toNatClampNeg a2))))) ∧ ((a1 = 0) → (∀ x75 : Int32, x75 = (a2 - 100) → (vp_in a1 5 ∧ (post r72 (sA st 3 (upd (gA st 3) a1.toNatClampNeg x75))))))))) ∧ ((r69 = 0) → (post (-2) st)))))))) ∧ ((a1 = 3) → (wp_X11_in a1.toInt64 0 4 (fun r77 => ((r77 = 0) → (post (-2) st)) ∧ ((¬ r77 = 0) → (wp_X11_in a2.toInt64 ((100 : Int32).toInt64) ((100 : Int32).toInt64) (fun r80 => ((¬ r80 = 0) → (wp_X11_setNow st a1 (fun r83 => ((¬ a1 = 0) → (vp_in a1 5 ∧ (post r83 (sA st 3 (upd (gA st 3) a1.toNatClampNeg a2))))) ∧ ((a1 = 0) → (∀ x86 : Int32, x86 = (a2 - 100) → (vp_in a1 5 ∧ (post r83 (sA st 3 (upd (gA st 3) a1.toNatClampNeg x86))))))))) ∧ ((r80 = 0) → (post (-2) st)))))))))) ∧ ((a1 = 2) → (wp_X11_in a1.toInt64 0 4 (fun r88 => ((r88 = 0) → (post (-2) st)) ∧ ((¬ r88 = 0) → (wp_X11_in a2.toInt64 ((100 : Int32).toInt64) ((200 : Int32).toInt64) (fun r91 => ((¬ r91 = 0) → (wp_X11_setNow st a1 (fun r94 => ((¬ a1 = 0) → (vp_in a1 5 ∧ (post r94 (sA st 3 (upd (gA st 3) a1.toNatClampNeg a2))))) ∧ ((a1 = 0) → (∀ x97 : Int32, x97 = (a2 - 100) → (vp_in a1 5 ∧ (post r94 (sA st 3 (upd (gA st 3) a1.toNatClampNeg x97))))))))) ∧ ((r91 = 0) → (post (-2) st)))))))))) ∧ ((a1 = 1) → (wp_X11_in a1.toInt64 0 4 (fun r99 => ((r99 = 0) → (post (-2) st)) ∧ ((¬ r99 = 0) → (wp_X11_in a2.toInt64 ((100 : Int32).toInt64) ((9 : Int32).toInt64) (fun r102 => ((¬ r102 = 0) → (wp_X11_setNow st a1 (fun r105 => ((¬ a1 = 0) → (vp_in a1 5 ∧ (post r105 (sA st 3 (upd (gA st 3) a1.toNatClampNeg a2))))) ∧ ((a1 = 0) → (∀ x108 : Int32, x108 = (a2 - 100) → (vp_in a1 5 ∧ (post r105 (sA st 3 (upd (gA st 3) a1.toNatClampNeg x108))))))))) ∧ ((r102 = 0) → (post (-2) st)))))))))) ∧ ((a1 = 0) → (wp_X11_in a1.toInt64 0 4 (fun r110 => ((r110 = 0) → (post (-2) st)) ∧ ((¬ r110 = 0) → (wp_X11_in a2.toInt64 ((100 : Int32).toInt64) ((199 : Int32).toInt64) (fun r113 => ((¬ r113 = 0) → (wp_X11_setNow st a1 (fun r116 => ((¬ a1 = 0) → (vp_in a1 5 ∧ (post r116 (sA st 3 (upd (gA st 3) a1.toNatClampNeg a2))))) ∧ ((a1 = 0) → (∀ x119 : Int32, x119 = (a2 - 100) → (vp_in a1 5 ∧ (post r116 (sA st 3 (upd (gA st 3) a1.toNatClampNeg x119))))))))) ∧ ((r113 = 0) → (post (-2) st)))))))))))) ∧ ((a1 = 0) → (((¬ a1 = 0) → (((¬ a1 = 1) → (((¬ a1 = 2) → (((¬ a1 = 3) → (wp_X11_in a1.toInt64 0 4 (fun r125 => ((r125 = 0) → (post (-2) st)) ∧ ((¬ r125 = 0) → (wp_X11_in a2.toInt64 ((1 : Int32).toInt64) ((1000 : Int32).toInt64) (fun r128 => ((¬ r128 = 0) → (wp_X11_setNow st a1 (fun r131 => ((¬ a1 = 0) → (vp_in a1 5 ∧ (post r131 (sA st 3 (upd (gA st 3) a1.toNatClampNeg a2))))) ∧ ((a1 = 0) → (∀ x134 : Int32, x134 = (a2 - 100) → (vp_in a1 5 ∧ (post r131 (sA st 3 (upd (gA st 3) a1.toNatClampNeg x134))))))))) ∧ ((r128 = 0) → (post (-2) st)))))))) ∧ ((a1 = 3) → (wp_X11_in a1.toInt64 0 4 (fun r136 => ((r136 = 0) → (post (-2) st)) ∧ ((¬ r136 = 0) → (wp_X11_in a2.toInt64 ((1 : Int32).toInt64) ((100 : Int32).toInt64) (fun r139 => ((¬ r139 = 0) → (wp_X11_setNow st a1 (fun r142 => ((¬ a1 = 0) → (vp_in a1 5 ∧ (post r142 (sA st 3 (upd (gA st 3) a1.toNatClampNeg a2))))) ∧ ((a1 = 0) → (∀ x145 : Int32, x145 = (a2 - 100) → (vp_in a1 5 ∧ (post r142 (sA st 3 (upd (gA st 3) a1.toNatClampNeg x145))))))))) ∧ ((r139 = 0) → (post (-2) st)))))))))) ∧ ((a1 = 2) → (wp_X11_in a1.toInt64 0 4 (fun r147 => ((r147 = 0) → (post (-2) st)) ∧ ((¬ r147 = 0) → (wp_X11_in a2.toInt64 ((1 : Int32).toInt64) ((200 : Int32).toInt64) (fun r150 => ((¬ r150 = 0) → (wp_X11_setNow st a1 (fun r153 => ((¬ a1 = 0) → (vp_in a1 5 ∧ (post r153 (sA st 3 (upd (gA st 3) a1.toNatClampNeg a2))))) ∧ ((a1 = 0) → (∀ x156 : Int32, x156 = (a2 - 100) → (vp_in a1 5 ∧ (post r153 (sA st 3 (upd (gA st 3) a1.toNatClampNeg x156))))))))) ∧ ((r150 = 0) → (post (-2) st)))))))))) ∧ ((a1 = 1) → (wp_X11_in a1.toInt64 0 4 (fun r158 => ((r158 = 0) → (post (-2) st)) ∧ ((¬ r158 = 0) → (wp_X11_in a2.toInt64 ((1 : Int32).toInt64) ((9 : Int32).toInt64) (fun r161 => ((¬ r161 = 0) → (wp_X11_setNow st a1 (fun r164 => ((¬ a1 = 0) → (vp_in a1 5 ∧ (post r164 (sA st 3 (upd (gA st 3) a1.toNatClampNeg a2))))) ∧ ((a1 = 0) → (∀ x167 : Int32, x167 = (a2 - 100) → (vp_in a1 5 ∧ (post r164 (sA st 3 (upd (gA st 3) a1.toNatClampNeg x167))))))))) ∧ ((r161 = 0) → (post (-2) st)))))))))) ∧ ((a1 = 0) → (wp_X11_in a1.toInt64 0 4 (fun r169 => ((r169 = 0) → (post (-2) st)) ∧ ((¬ r169 = 0) → (wp_X11_in a2.toInt64 ((1 : Int32).toInt64) ((199 : Int32).toInt64) (fun r172 => ((¬ r172 = 0) → (wp_X11_setNow st a1 (fun r175 => ((¬ a1 = 0) → (vp_in a1 5 ∧ (post r175 (sA st 3 (upd (gA st 3) a1.toNatClampNeg a2))))) ∧ ((a1 = 0) → (∀ x178 : Int32, x178 = (a2 - 100) → (vp_in a1 5 ∧ (post r175 (sA st 3 (upd (gA st 3) a1.toNatClampNeg x178))))))))) ∧ ((r172 = 0) → (post (-2) st))))))))))
set_option maxHeartbeats 4000000 in
set_option maxRecDepth 100000 in
theorem c_X11_set (l : Launch) (D : va_G) (cy : Nat → ClassId) (tz : Nat → Nat) (ad : Nat → Nat) (st : St) (a1 : Int32) (a2 : Int32) (post : Int32 → St → Prop) (h : wp_X11_set st a1 a2 post) : CtI l D cy tz yX11_set ws_X11_set rm_X11_set [.ref (ad 0), .int a1, .int a2] (wM cy ad st) (wM cy ad) post := by
  refine CtI.of (own := RX11) (nm := "set") (lv := [(0, .ref (ad 0)), (1, .int a1), (2, .int a2)]) (plainFor_of_name (by decide)) rfl rfl (Nat.le_of_ble_eq_true rfl) rfl ?_
  intro p e s m args below meth c A Q ls B hP hD hS hl hret
  obtain ⟨hx, hb, hml, hown, hts, hK, hZ, hA, hnm⟩ := B
  have SF : CallFix p m c cX11_set 6 s args wsL_law RX11 := ⟨hx, hb, hml, hown, hts⟩
  unfold wp_X11_set at h
  refine lv_iload_n hx hb dX11_set_0 rfl (lv_at hl 1 rfl) ?_
  refine lv_if_ne (tgt := 8) hx hb dX11_set_1 (by decide) (fun c1 => ?_) (fun c1 => ?_)
  · have h := h.1 c1
    refine lv_iload_n hx hb dX11_set_8 rfl (lv_at hl 1 rfl) ?_
    refine lv_iconst (v := 4) hx hb dX11_set_9 (by decide) ?_
    refine lv_icmp_ne (tgt := 18) hx hb dX11_set_10 (by decide) (fun c2 => ?_) (fun c2 => ?_)
    · have h := h.1 c2
      refine lv_iconst (v := 0) hx hb dX11_set_18 (by decide) ?_
      refine lv_istore_n (lv' := [(3, .int 0), (0, .ref (ad 0)), (1, .int a1), (2, .int a2)]) hx hb dX11_set_19 rfl hl (by decide) rfl (fun ls hl => ?_)
      refine lv_iload_n hx hb dX11_set_20 rfl (lv_at hl 2 rfl) ?_
      refine lv_if_ne (tgt := 30) hx hb dX11_set_21 (by decide) (fun c3 => ?_) (fun c3 => ?_)
      · have h := h.1 c3
        refine lv_iload_n hx hb dX11_set_30 rfl (lv_at hl 2 rfl) ?_
        refine lv_iconst (v := 1) hx hb dX11_set_31 (by decide) ?_
        refine lv_icmp_ne (tgt := 40) hx hb dX11_set_32 (by decide) (fun c4 => ?_) (fun c4 => ?_)
        · have h := h.1 c4
          refine lv_iload_n hx hb dX11_set_40 rfl (lv_at hl 2 rfl) ?_
          refine lv_iconst (v := 2) hx hb dX11_set_41 (by decide) ?_
          refine lv_icmp_ne (tgt := 51) hx hb dX11_set_42 (by decide) (fun c5 => ?_) (fun c5 => ?_)
          · have h := h.1 c5
            refine lv_iload_n hx hb dX11_set_51 rfl (lv_at hl 2 rfl) ?_
            refine lv_iconst (v := 3) hx hb dX11_set_52 (by decide) ?_
            refine lv_icmp_ne (tgt := 61) hx hb dX11_set_53 (by decide) (fun c6 => ?_) (fun c6 => ?_)
            · have h := h.1 c6
              refine lv_sipush (v := 1000) hx hb dX11_set_61 (by decide) ?_
              refine lv_istore (lv' := [(4, .int 1000), (3, .int 0), (0, .ref (ad 0)), (1, .int a1), (2, .int a2)]) hx hb dX11_set_64 hl (by decide) rfl (fun ls hl => ?_)
              refine lv_iload_n hx hb dX11_set_66 rfl (lv_at hl 3 rfl) ?_
              refine lv_i2l (v := a1.toInt64) hx hb dX11_set_67 rfl ?_
              refine lv_lconst (v := 0) hx hb dX11_set_68 (by decide) ?_
              refine lv_ldc2 (v := 4) hx hb hown (hts _ w_6_17) dX11_set_69 ?_
              refine callSIr (rest := []) SF (c_X11_in l D cy tz _ a1.toInt64 0 4 _ h) (cw_RX11_67 hts ⟨Nat.le_of_ble_eq_true rfl, Nat.le_of_ble_eq_true rfl⟩) rfl rfl hK hZ hA hP hD hS rfl hl.1 rfl (Nat.le_of_ble_eq_true rfl) dX11_set_72 ⟨Nat.zero_le _, Nat.zero_le _⟩ (fun r7 H locs h hP hD hS => ?_)
              refine lv_if_eq (tgt := 91) hx hb dX11_set_75 (by decide) (fun c9 => ?_) (fun c9 => ?_)
              · have h := h.1 c9
                refine lv_bipush (v := (-2)) hx hb dX11_set_91 (by decide) ?_
                exact hret _ _ _ _ _ _ rfl h hP hD hS dX11_set_93
              · have h := h.2 c9
                refine lv_iload_n hx hb dX11_set_78 rfl (lv_at hl 4 rfl) ?_
                refine lv_i2l (v := a2.toInt64) hx hb dX11_set_79 rfl ?_
                refine lv_iload_n hx hb dX11_set_80 rfl (lv_at hl 1 rfl) ?_
                refine lv_i2l (v := (0 : Int32).toInt64) hx hb dX11_set_81 rfl ?_
                refine lv_iload hx hb dX11_set_82 (lv_at hl 0 rfl) ?_
                refine lv_i2l (v := (1000 : Int32).toInt64) hx hb dX11_set_84 rfl ?_
                refine callSIr (rest := []) SF (c_X11_in l D cy tz _ a2.toInt64 ((0 : Int32).toInt64) ((1000 : Int32).toInt64) _ h) (cw_RX11_67 hts ⟨Nat.le_of_ble_eq_true rfl, Nat.le_of_ble_eq_true rfl⟩) rfl rfl hK hZ hA hP hD hS rfl hl.1 rfl (Nat.le_of_ble_eq_true rfl) dX11_set_85 ⟨Nat.zero_le _, Nat.zero_le _⟩ (fun r10 H locs h hP hD hS => ?_)
                refine lv_if_ne (tgt := 94) hx hb dX11_set_88 (by decide) (fun c12 => ?_) (fun c12 => ?_)
                · have h := h.1 c12
                  refine lv_aload_n hx hb dX11_set_94 rfl (lv_at hl 2 rfl) ?_
                  refine lv_iload_n hx hb dX11_set_95 rfl (lv_at hl 3 rfl) ?_
                  refine callVIr (rest := []) SF (c_X11_setNow l D cy tz ad st a1 _ h) (cw_RX11_84 hts ⟨Nat.le_of_ble_eq_true rfl, Nat.le_of_ble_eq_true rfl⟩) rfl rfl (va_recv hK hP (ci := 10) (q0 := 0) rfl rfl) hK hZ hA hP hD hS rfl hl.1 rfl (Nat.le_of_ble_eq_true rfl) dX11_set_96 ⟨Nat.zero_le _, Nat.zero_le _⟩ (fun r13 H locs h hP hD hS => ?_)
                  refine lv_istore (lv' := [(5, .int r13), (4, .int 1000), (3, .int 0), (0, .ref (ad 0)), (1, .int a1), (2, .int a2)]) hx hb dX11_set_99 hl (by decide) rfl (fun ls hl => ?_)
                  refine lv_aload_n hx hb dX11_set_101 rfl (lv_at hl 3 rfl) ?_
                  refine va_get (D := D) (ci := 10) (v := .ref (ad 2)) (C := RX11) (T := TX11) (N := 35) hx hb hts inlX11 hown hK hP 0 rfl rfl 3 (by decide) (hts _ w_5_7) (fun _ h9 => h9) rfl dX11_set_102 ?_
                  refine lv_iload_n hx hb dX11_set_105 rfl (lv_at hl 4 rfl) ?_
                  refine lv_iload_n hx hb dX11_set_106 rfl (lv_at hl 4 rfl) ?_
                  refine lv_if_ne (tgt := 117) hx hb dX11_set_107 (by decide) (fun c15 => ?_) (fun c15 => ?_)
                  · have h := h.1 c15
                    refine lv_iload_n hx hb dX11_set_117 rfl (lv_at hl 5 rfl) ?_
                    refine va_iast (f := gA st 3) (n := 5) hx hb hK hP hD hS 2 0 rfl rfl h.1 dX11_set_118 (fun H locs hP hD hS => ?_)
                    have h := h.2
                    have hP : va_P D vwCl (wM cy ad (sA st 3 (upd (gA st 3) a1.toNatClampNeg a2))) H := hP
                    have hD : va_D A (wM cy ad (sA st 3 (upd (gA st 3) a1.toNatClampNeg a2))) := hD
                    refine lv_iload hx hb dX11_set_119 (lv_at hl 0 rfl) ?_
                    exact hret _ _ _ _ _ _ rfl h hP hD hS dX11_set_121
                  · have h := h.2 c15
                    refine lv_iload_n hx hb dX11_set_110 rfl (lv_at hl 5 rfl) ?_
                    refine lv_bipush (v := 100) hx hb dX11_set_111 (by decide) ?_
                    refine lv_isub hx hb dX11_set_113 ?_
                    refine lv_goto (tgt := 118) hx hb dX11_set_114 (by decide) ?_
                    refine lv_topi (fun x16 e17 => ?_)
                    have h := h x16 e17
                    refine va_iast (f := gA st 3) (n := 5) hx hb hK hP hD hS 2 0 rfl rfl h.1 dX11_set_118 (fun H locs hP hD hS => ?_)
                    have h := h.2
                    have hP : va_P D vwCl (wM cy ad (sA st 3 (upd (gA st 3) a1.toNatClampNeg x16))) H := hP
                    have hD : va_D A (wM cy ad (sA st 3 (upd (gA st 3) a1.toNatClampNeg x16))) := hD
                    refine lv_iload hx hb dX11_set_119 (lv_at hl 0 rfl) ?_
                    exact hret _ _ _ _ _ _ rfl h hP hD hS dX11_set_121
                · have h := h.2 c12
                  refine lv_bipush (v := (-2)) hx hb dX11_set_91 (by decide) ?_
                  exact hret _ _ _ _ _ _ rfl h hP hD hS dX11_set_93
            · have h := h.2 c6
              refine lv_bipush (v := 100) hx hb dX11_set_56 (by decide) ?_
              refine lv_goto (tgt := 64) hx hb dX11_set_58 (by decide) ?_
              refine lv_istore (lv' := [(4, .int 100), (3, .int 0), (0, .ref (ad 0)), (1, .int a1), (2, .int a2)]) hx hb dX11_set_64 hl (by decide) rfl (fun ls hl => ?_)
              refine lv_iload_n hx hb dX11_set_66 rfl (lv_at hl 3 rfl) ?_
              refine lv_i2l (v := a1.toInt64) hx hb dX11_set_67 rfl ?_
              refine lv_lconst (v := 0) hx hb dX11_set_68 (by decide) ?_
              refine lv_ldc2 (v := 4) hx hb hown (hts _ w_6_17) dX11_set_69 ?_
              refine callSIr (rest := []) SF (c_X11_in l D cy tz _ a1.toInt64 0 4 _ h) (cw_RX11_67 hts ⟨Nat.le_of_ble_eq_true rfl, Nat.le_of_ble_eq_true rfl⟩) rfl rfl hK hZ hA hP hD hS rfl hl.1 rfl (Nat.le_of_ble_eq_true rfl) dX11_set_72 ⟨Nat.zero_le _, Nat.zero_le _⟩ (fun r18 H locs h hP hD hS => ?_)
              refine lv_if_eq (tgt := 91) hx hb dX11_set_75 (by decide) (fun c20 => ?_) (fun c20 => ?_)
              · have h := h.1 c20
                refine lv_bipush (v := (-2)) hx hb dX11_set_91 (by decide) ?_
                exact hret _ _ _ _ _ _ rfl h hP hD hS dX11_set_93
              · have h := h.2 c20
                refine lv_iload_n hx hb dX11_set_78 rfl (lv_at hl 4 rfl) ?_
                refine lv_i2l (v := a2.toInt64) hx hb dX11_set_79 rfl ?_
                refine lv_iload_n hx hb dX11_set_80 rfl (lv_at hl 1 rfl) ?_
                refine lv_i2l (v := (0 : Int32).toInt64) hx hb dX11_set_81 rfl ?_
                refine lv_iload hx hb dX11_set_82 (lv_at hl 0 rfl) ?_
                refine lv_i2l (v := (100 : Int32).toInt64) hx hb dX11_set_84 rfl ?_
                refine callSIr (rest := []) SF (c_X11_in l D cy tz _ a2.toInt64 ((0 : Int32).toInt64) ((100 : Int32).toInt64) _ h) (cw_RX11_67 hts ⟨Nat.le_of_ble_eq_true rfl, Nat.le_of_ble_eq_true rfl⟩) rfl rfl hK hZ hA hP hD hS rfl hl.1 rfl (Nat.le_of_ble_eq_true rfl) dX11_set_85 ⟨Nat.zero_le _, Nat.zero_le _⟩ (fun r21 H locs h hP hD hS => ?_)
                refine lv_if_ne (tgt := 94) hx hb dX11_set_88 (by decide) (fun c23 => ?_) (fun c23 => ?_)
                · have h := h.1 c23
                  refine lv_aload_n hx hb dX11_set_94 rfl (lv_at hl 2 rfl) ?_
                  refine lv_iload_n hx hb dX11_set_95 rfl (lv_at hl 3 rfl) ?_
                  refine callVIr (rest := []) SF (c_X11_setNow l D cy tz ad st a1 _ h) (cw_RX11_84 hts ⟨Nat.le_of_ble_eq_true rfl, Nat.le_of_ble_eq_true rfl⟩) rfl rfl (va_recv hK hP (ci := 10) (q0 := 0) rfl rfl) hK hZ hA hP hD hS rfl hl.1 rfl (Nat.le_of_ble_eq_true rfl) dX11_set_96 ⟨Nat.zero_le _, Nat.zero_le _⟩ (fun r24 H locs h hP hD hS => ?_)
                  refine lv_istore (lv' := [(5, .int r24), (4, .int 100), (3, .int 0), (0, .ref (ad 0)), (1, .int a1), (2, .int a2)]) hx hb dX11_set_99 hl (by decide) rfl (fun ls hl => ?_)
                  refine lv_aload_n hx hb dX11_set_101 rfl (lv_at hl 3 rfl) ?_
                  refine va_get (D := D) (ci := 10) (v := .ref (ad 2)) (C := RX11) (T := TX11) (N := 35) hx hb hts inlX11 hown hK hP 0 rfl rfl 3 (by decide) (hts _ w_5_7) (fun _ h9 => h9) rfl dX11_set_102 ?_
                  refine lv_iload_n hx hb dX11_set_105 rfl (lv_at hl 4 rfl) ?_
                  refine lv_iload_n hx hb dX11_set_106 rfl (lv_at hl 4 rfl) ?_
                  refine lv_if_ne (tgt := 117) hx hb dX11_set_107 (by decide) (fun c26 => ?_) (fun c26 => ?_)
                  · have h := h.1 c26
                    refine lv_iload_n hx hb dX11_set_117 rfl (lv_at hl 5 rfl) ?_
                    refine va_iast (f := gA st 3) (n := 5) hx hb hK hP hD hS 2 0 rfl rfl h.1 dX11_set_118 (fun H locs hP hD hS => ?_)
                    have h := h.2
                    have hP : va_P D vwCl (wM cy ad (sA st 3 (upd (gA st 3) a1.toNatClampNeg a2))) H := hP
                    have hD : va_D A (wM cy ad (sA st 3 (upd (gA st 3) a1.toNatClampNeg a2))) := hD
                    refine lv_iload hx hb dX11_set_119 (lv_at hl 0 rfl) ?_
                    exact hret _ _ _ _ _ _ rfl h hP hD hS dX11_set_121
                  · have h := h.2 c26
                    refine lv_iload_n hx hb dX11_set_110 rfl (lv_at hl 5 rfl) ?_
                    refine lv_bipush (v := 100) hx hb dX11_set_111 (by decide) ?_
                    refine lv_isub hx hb dX11_set_113 ?_
                    refine lv_goto (tgt := 118) hx hb dX11_set_114 (by decide) ?_
                    refine lv_topi (fun x27 e28 => ?_)
                    have h := h x27 e28
                    refine va_iast (f := gA st 3) (n := 5) hx hb hK hP hD hS 2 0 rfl rfl h.1 dX11_set_118 (fun H locs hP hD hS => ?_)
                    have h := h.2
                    have hP : va_P D vwCl (wM cy ad (sA st 3 (upd (gA st 3) a1.toNatClampNeg x27))) H := hP
                    have hD : va_D A (wM cy ad (sA st 3 (upd (gA st 3) a1.toNatClampNeg x27))) := hD
                    refine lv_iload hx hb dX11_set_119 (lv_at hl 0 rfl) ?_
                    exact hret _ _ _ _ _ _ rfl h hP hD hS dX11_set_121
                · have h := h.2 c23
                  refine lv_bipush (v := (-2)) hx hb dX11_set_91 (by decide) ?_
                  exact hret _ _ _ _ _ _ rfl h hP hD hS dX11_set_93
          · have h := h.2 c5
            refine lv_sipush (v := 200) hx hb dX11_set_45 (by decide) ?_
            refine lv_goto (tgt := 64) hx hb dX11_set_48 (by decide) ?_
            refine lv_istore (lv' := [(4, .int 200), (3, .int 0), (0, .ref (ad 0)), (1, .int a1), (2, .int a2)]) hx hb dX11_set_64 hl (by decide) rfl (fun ls hl => ?_)
            refine lv_iload_n hx hb dX11_set_66 rfl (lv_at hl 3 rfl) ?_
            refine lv_i2l (v := a1.toInt64) hx hb dX11_set_67 rfl ?_
            refine lv_lconst (v := 0) hx hb dX11_set_68 (by decide) ?_
            refine lv_ldc2 (v := 4) hx hb hown (hts _ w_6_17) dX11_set_69 ?_
            refine callSIr (rest := []) SF (c_X11_in l D cy tz _ a1.toInt64 0 4 _ h) (cw_RX11_67 hts ⟨Nat.le_of_ble_eq_true rfl, Nat.le_of_ble_eq_true rfl⟩) rfl rfl hK hZ hA hP hD hS rfl hl.1 rfl (Nat.le_of_ble_eq_true rfl) dX11_set_72 ⟨Nat.zero_le _, Nat.zero_le _⟩ (fun r29 H locs h hP hD hS => ?_)
            refine lv_if_eq (tgt := 91) hx hb dX11_set_75 (by decide) (fun c31 => ?_) (fun c31 => ?_)
            · have h := h.1 c31
              refine lv_bipush (v := (-2)) hx hb dX11_set_91 (by decide) ?_
              exact hret _ _ _ _ _ _ rfl h hP hD hS dX11_set_93
            · have h := h.2 c31
              refine lv_iload_n hx hb dX11_set_78 rfl (lv_at hl 4 rfl) ?_
              refine lv_i2l (v := a2.toInt64) hx hb dX11_set_79 rfl ?_
              refine lv_iload_n hx hb dX11_set_80 rfl (lv_at hl 1 rfl) ?_
              refine lv_i2l (v := (0 : Int32).toInt64) hx hb dX11_set_81 rfl ?_
              refine lv_iload hx hb dX11_set_82 (lv_at hl 0 rfl) ?_
              refine lv_i2l (v := (200 : Int32).toInt64) hx hb dX11_set_84 rfl ?_
              refine callSIr (rest := []) SF (c_X11_in l D cy tz _ a2.toInt64 ((0 : Int32).toInt64) ((200 : Int32).toInt64) _ h) (cw_RX11_67 hts ⟨Nat.le_of_ble_eq_true rfl, Nat.le_of_ble_eq_true rfl⟩) rfl rfl hK hZ hA hP hD hS rfl hl.1 rfl (Nat.le_of_ble_eq_true rfl) dX11_set_85 ⟨Nat.zero_le _, Nat.zero_le _⟩ (fun r32 H locs h hP hD hS => ?_)
              refine lv_if_ne (tgt := 94) hx hb dX11_set_88 (by decide) (fun c34 => ?_) (fun c34 => ?_)
              · have h := h.1 c34
                refine lv_aload_n hx hb dX11_set_94 rfl (lv_at hl 2 rfl) ?_
                refine lv_iload_n hx hb dX11_set_95 rfl (lv_at hl 3 rfl) ?_
                refine callVIr (rest := []) SF (c_X11_setNow l D cy tz ad st a1 _ h) (cw_RX11_84 hts ⟨Nat.le_of_ble_eq_true rfl, Nat.le_of_ble_eq_true rfl⟩) rfl rfl (va_recv hK hP (ci := 10) (q0 := 0) rfl rfl) hK hZ hA hP hD hS rfl hl.1 rfl (Nat.le_of_ble_eq_true rfl) dX11_set_96 ⟨Nat.zero_le _, Nat.zero_le _⟩ (fun r35 H locs h hP hD hS => ?_)
                refine lv_istore (lv' := [(5, .int r35), (4, .int 200), (3, .int 0), (0, .ref (ad 0)), (1, .int a1), (2, .int a2)]) hx hb dX11_set_99 hl (by decide) rfl (fun ls hl => ?_)
                refine lv_aload_n hx hb dX11_set_101 rfl (lv_at hl 3 rfl) ?_
                refine va_get (D := D) (ci := 10) (v := .ref (ad 2)) (C := RX11) (T := TX11) (N := 35) hx hb hts inlX11 hown hK hP 0 rfl rfl 3 (by decide) (hts _ w_5_7) (fun _ h9 => h9) rfl dX11_set_102 ?_
                refine lv_iload_n hx hb dX11_set_105 rfl (lv_at hl 4 rfl) ?_
                refine lv_iload_n hx hb dX11_set_106 rfl (lv_at hl 4 rfl) ?_
                refine lv_if_ne (tgt := 117) hx hb dX11_set_107 (by decide) (fun c37 => ?_) (fun c37 => ?_)
                · have h := h.1 c37
                  refine lv_iload_n hx hb dX11_set_117 rfl (lv_at hl 5 rfl) ?_
                  refine va_iast (f := gA st 3) (n := 5) hx hb hK hP hD hS 2 0 rfl rfl h.1 dX11_set_118 (fun H locs hP hD hS => ?_)
                  have h := h.2
                  have hP : va_P D vwCl (wM cy ad (sA st 3 (upd (gA st 3) a1.toNatClampNeg a2))) H := hP
                  have hD : va_D A (wM cy ad (sA st 3 (upd (gA st 3) a1.toNatClampNeg a2))) := hD
                  refine lv_iload hx hb dX11_set_119 (lv_at hl 0 rfl) ?_
                  exact hret _ _ _ _ _ _ rfl h hP hD hS dX11_set_121
                · have h := h.2 c37
                  refine lv_iload_n hx hb dX11_set_110 rfl (lv_at hl 5 rfl) ?_
                  refine lv_bipush (v := 100) hx hb dX11_set_111 (by decide) ?_
                  refine lv_isub hx hb dX11_set_113 ?_
                  refine lv_goto (tgt := 118) hx hb dX11_set_114 (by decide) ?_
                  refine lv_topi (fun x38 e39 => ?_)
                  have h := h x38 e39
                  refine va_iast (f := gA st 3) (n := 5) hx hb hK hP hD hS 2 0 rfl rfl h.1 dX11_set_118 (fun H locs hP hD hS => ?_)
                  have h := h.2
                  have hP : va_P D vwCl (wM cy ad (sA st 3 (upd (gA st 3) a1.toNatClampNeg x38))) H := hP
                  have hD : va_D A (wM cy ad (sA st 3 (upd (gA st 3) a1.toNatClampNeg x38))) := hD
                  refine lv_iload hx hb dX11_set_119 (lv_at hl 0 rfl) ?_
                  exact hret _ _ _ _ _ _ rfl h hP hD hS dX11_set_121
              · have h := h.2 c34
                refine lv_bipush (v := (-2)) hx hb dX11_set_91 (by decide) ?_
                exact hret _ _ _ _ _ _ rfl h hP hD hS dX11_set_93
        · have h := h.2 c4
          refine lv_bipush (v := 9) hx hb dX11_set_35 (by decide) ?_
          refine lv_goto (tgt := 64) hx hb dX11_set_37 (by decide) ?_
          refine lv_istore (lv' := [(4, .int 9), (3, .int 0), (0, .ref (ad 0)), (1, .int a1), (2, .int a2)]) hx hb dX11_set_64 hl (by decide) rfl (fun ls hl => ?_)
          refine lv_iload_n hx hb dX11_set_66 rfl (lv_at hl 3 rfl) ?_
          refine lv_i2l (v := a1.toInt64) hx hb dX11_set_67 rfl ?_
          refine lv_lconst (v := 0) hx hb dX11_set_68 (by decide) ?_
          refine lv_ldc2 (v := 4) hx hb hown (hts _ w_6_17) dX11_set_69 ?_
          refine callSIr (rest := []) SF (c_X11_in l D cy tz _ a1.toInt64 0 4 _ h) (cw_RX11_67 hts ⟨Nat.le_of_ble_eq_true rfl, Nat.le_of_ble_eq_true rfl⟩) rfl rfl hK hZ hA hP hD hS rfl hl.1 rfl (Nat.le_of_ble_eq_true rfl) dX11_set_72 ⟨Nat.zero_le _, Nat.zero_le _⟩ (fun r40 H locs h hP hD hS => ?_)
          refine lv_if_eq (tgt := 91) hx hb dX11_set_75 (by decide) (fun c42 => ?_) (fun c42 => ?_)
          · have h := h.1 c42
            refine lv_bipush (v := (-2)) hx hb dX11_set_91 (by decide) ?_
            exact hret _ _ _ _ _ _ rfl h hP hD hS dX11_set_93
          · have h := h.2 c42
            refine lv_iload_n hx hb dX11_set_78 rfl (lv_at hl 4 rfl) ?_
            refine lv_i2l (v := a2.toInt64) hx hb dX11_set_79 rfl ?_
            refine lv_iload_n hx hb dX11_set_80 rfl (lv_at hl 1 rfl) ?_
            refine lv_i2l (v := (0 : Int32).toInt64) hx hb dX11_set_81 rfl ?_
            refine lv_iload hx hb dX11_set_82 (lv_at hl 0 rfl) ?_
            refine lv_i2l (v := (9 : Int32).toInt64) hx hb dX11_set_84 rfl ?_
            refine callSIr (rest := []) SF (c_X11_in l D cy tz _ a2.toInt64 ((0 : Int32).toInt64) ((9 : Int32).toInt64) _ h) (cw_RX11_67 hts ⟨Nat.le_of_ble_eq_true rfl, Nat.le_of_ble_eq_true rfl⟩) rfl rfl hK hZ hA hP hD hS rfl hl.1 rfl (Nat.le_of_ble_eq_true rfl) dX11_set_85 ⟨Nat.zero_le _, Nat.zero_le _⟩ (fun r43 H locs h hP hD hS => ?_)
            refine lv_if_ne (tgt := 94) hx hb dX11_set_88 (by decide) (fun c45 => ?_) (fun c45 => ?_)
            · have h := h.1 c45
              refine lv_aload_n hx hb dX11_set_94 rfl (lv_at hl 2 rfl) ?_
              refine lv_iload_n hx hb dX11_set_95 rfl (lv_at hl 3 rfl) ?_
              refine callVIr (rest := []) SF (c_X11_setNow l D cy tz ad st a1 _ h) (cw_RX11_84 hts ⟨Nat.le_of_ble_eq_true rfl, Nat.le_of_ble_eq_true rfl⟩) rfl rfl (va_recv hK hP (ci := 10) (q0 := 0) rfl rfl) hK hZ hA hP hD hS rfl hl.1 rfl (Nat.le_of_ble_eq_true rfl) dX11_set_96 ⟨Nat.zero_le _, Nat.zero_le _⟩ (fun r46 H locs h hP hD hS => ?_)
              refine lv_istore (lv' := [(5, .int r46), (4, .int 9), (3, .int 0), (0, .ref (ad 0)), (1, .int a1), (2, .int a2)]) hx hb dX11_set_99 hl (by decide) rfl (fun ls hl => ?_)
              refine lv_aload_n hx hb dX11_set_101 rfl (lv_at hl 3 rfl) ?_
              refine va_get (D := D) (ci := 10) (v := .ref (ad 2)) (C := RX11) (T := TX11) (N := 35) hx hb hts inlX11 hown hK hP 0 rfl rfl 3 (by decide) (hts _ w_5_7) (fun _ h9 => h9) rfl dX11_set_102 ?_
              refine lv_iload_n hx hb dX11_set_105 rfl (lv_at hl 4 rfl) ?_
              refine lv_iload_n hx hb dX11_set_106 rfl (lv_at hl 4 rfl) ?_
              refine lv_if_ne (tgt := 117) hx hb dX11_set_107 (by decide) (fun c48 => ?_) (fun c48 => ?_)
              · have h := h.1 c48
                refine lv_iload_n hx hb dX11_set_117 rfl (lv_at hl 5 rfl) ?_
                refine va_iast (f := gA st 3) (n := 5) hx hb hK hP hD hS 2 0 rfl rfl h.1 dX11_set_118 (fun H locs hP hD hS => ?_)
                have h := h.2
                have hP : va_P D vwCl (wM cy ad (sA st 3 (upd (gA st 3) a1.toNatClampNeg a2))) H := hP
                have hD : va_D A (wM cy ad (sA st 3 (upd (gA st 3) a1.toNatClampNeg a2))) := hD
                refine lv_iload hx hb dX11_set_119 (lv_at hl 0 rfl) ?_
                exact hret _ _ _ _ _ _ rfl h hP hD hS dX11_set_121
              · have h := h.2 c48
                refine lv_iload_n hx hb dX11_set_110 rfl (lv_at hl 5 rfl) ?_
                refine lv_bipush (v := 100) hx hb dX11_set_111 (by decide) ?_
                refine lv_isub hx hb dX11_set_113 ?_
                refine lv_goto (tgt := 118) hx hb dX11_set_114 (by decide) ?_
                refine lv_topi (fun x49 e50 => ?_)
                have h := h x49 e50
                refine va_iast (f := gA st 3) (n := 5) hx hb hK hP hD hS 2 0 rfl rfl h.1 dX11_set_118 (fun H locs hP hD hS => ?_)
                have h := h.2
                have hP : va_P D vwCl (wM cy ad (sA st 3 (upd (gA st 3) a1.toNatClampNeg x49))) H := hP
                have hD : va_D A (wM cy ad (sA st 3 (upd (gA st 3) a1.toNatClampNeg x49))) := hD
                refine lv_iload hx hb dX11_set_119 (lv_at hl 0 rfl) ?_
                exact hret _ _ _ _ _ _ rfl h hP hD hS dX11_set_121
            · have h := h.2 c45
              refine lv_bipush (v := (-2)) hx hb dX11_set_91 (by decide) ?_
              exact hret _ _ _ _ _ _ rfl h hP hD hS dX11_set_93
      · have h := h.2 c3
        refine lv_sipush (v := 199) hx hb dX11_set_24 (by decide) ?_
        refine lv_goto (tgt := 64) hx hb dX11_set_27 (by decide) ?_
        refine lv_istore (lv' := [(4, .int 199), (3, .int 0), (0, .ref (ad 0)), (1, .int a1), (2, .int a2)]) hx hb dX11_set_64 hl (by decide) rfl (fun ls hl => ?_)
        refine lv_iload_n hx hb dX11_set_66 rfl (lv_at hl 3 rfl) ?_
        refine lv_i2l (v := a1.toInt64) hx hb dX11_set_67 rfl ?_
        refine lv_lconst (v := 0) hx hb dX11_set_68 (by decide) ?_
        refine lv_ldc2 (v := 4) hx hb hown (hts _ w_6_17) dX11_set_69 ?_
        refine callSIr (rest := []) SF (c_X11_in l D cy tz _ a1.toInt64 0 4 _ h) (cw_RX11_67 hts ⟨Nat.le_of_ble_eq_true rfl, Nat.le_of_ble_eq_true rfl⟩) rfl rfl hK hZ hA hP hD hS rfl hl.1 rfl (Nat.le_of_ble_eq_true rfl) dX11_set_72 ⟨Nat.zero_le _, Nat.zero_le _⟩ (fun r51 H locs h hP hD hS => ?_)
        refine lv_if_eq (tgt := 91) hx hb dX11_set_75 (by decide) (fun c53 => ?_) (fun c53 => ?_)
        · have h := h.1 c53
          refine lv_bipush (v := (-2)) hx hb dX11_set_91 (by decide) ?_
          exact hret _ _ _ _ _ _ rfl h hP hD hS dX11_set_93
        · have h := h.2 c53
          refine lv_iload_n hx hb dX11_set_78 rfl (lv_at hl 4 rfl) ?_
          refine lv_i2l (v := a2.toInt64) hx hb dX11_set_79 rfl ?_
          refine lv_iload_n hx hb dX11_set_80 rfl (lv_at hl 1 rfl) ?_
          refine lv_i2l (v := (0 : Int32).toInt64) hx hb dX11_set_81 rfl ?_
          refine lv_iload hx hb dX11_set_82 (lv_at hl 0 rfl) ?_
          refine lv_i2l (v := (199 : Int32).toInt64) hx hb dX11_set_84 rfl ?_
          refine callSIr (rest := []) SF (c_X11_in l D cy tz _ a2.toInt64 ((0 : Int32).toInt64) ((199 : Int32).toInt64) _ h) (cw_RX11_67 hts ⟨Nat.le_of_ble_eq_true rfl, Nat.le_of_ble_eq_true rfl⟩) rfl rfl hK hZ hA hP hD hS rfl hl.1 rfl (Nat.le_of_ble_eq_true rfl) dX11_set_85 ⟨Nat.zero_le _, Nat.zero_le _⟩ (fun r54 H locs h hP hD hS => ?_)
          refine lv_if_ne (tgt := 94) hx hb dX11_set_88 (by decide) (fun c56 => ?_) (fun c56 => ?_)
          · have h := h.1 c56
            refine lv_aload_n hx hb dX11_set_94 rfl (lv_at hl 2 rfl) ?_
            refine lv_iload_n hx hb dX11_set_95 rfl (lv_at hl 3 rfl) ?_
            refine callVIr (rest := []) SF (c_X11_setNow l D cy tz ad st a1 _ h) (cw_RX11_84 hts ⟨Nat.le_of_ble_eq_true rfl, Nat.le_of_ble_eq_true rfl⟩) rfl rfl (va_recv hK hP (ci := 10) (q0 := 0) rfl rfl) hK hZ hA hP hD hS rfl hl.1 rfl (Nat.le_of_ble_eq_true rfl) dX11_set_96 ⟨Nat.zero_le _, Nat.zero_le _⟩ (fun r57 H locs h hP hD hS => ?_)
            refine lv_istore (lv' := [(5, .int r57), (4, .int 199), (3, .int 0), (0, .ref (ad 0)), (1, .int a1), (2, .int a2)]) hx hb dX11_set_99 hl (by decide) rfl (fun ls hl => ?_)
            refine lv_aload_n hx hb dX11_set_101 rfl (lv_at hl 3 rfl) ?_
            refine va_get (D := D) (ci := 10) (v := .ref (ad 2)) (C := RX11) (T := TX11) (N := 35) hx hb hts inlX11 hown hK hP 0 rfl rfl 3 (by decide) (hts _ w_5_7) (fun _ h9 => h9) rfl dX11_set_102 ?_
            refine lv_iload_n hx hb dX11_set_105 rfl (lv_at hl 4 rfl) ?_
            refine lv_iload_n hx hb dX11_set_106 rfl (lv_at hl 4 rfl) ?_
            refine lv_if_ne (tgt := 117) hx hb dX11_set_107 (by decide) (fun c59 => ?_) (fun c59 => ?_)
            · have h := h.1 c59
              refine lv_iload_n hx hb dX11_set_117 rfl (lv_at hl 5 rfl) ?_
              refine va_iast (f := gA st 3) (n := 5) hx hb hK hP hD hS 2 0 rfl rfl h.1 dX11_set_118 (fun H locs hP hD hS => ?_)
              have h := h.2
              have hP : va_P D vwCl (wM cy ad (sA st 3 (upd (gA st 3) a1.toNatClampNeg a2))) H := hP
              have hD : va_D A (wM cy ad (sA st 3 (upd (gA st 3) a1.toNatClampNeg a2))) := hD
              refine lv_iload hx hb dX11_set_119 (lv_at hl 0 rfl) ?_
              exact hret _ _ _ _ _ _ rfl h hP hD hS dX11_set_121
            · have h := h.2 c59
              refine lv_iload_n hx hb dX11_set_110 rfl (lv_at hl 5 rfl) ?_
              refine lv_bipush (v := 100) hx hb dX11_set_111 (by decide) ?_
              refine lv_isub hx hb dX11_set_113 ?_
              refine lv_goto (tgt := 118) hx hb dX11_set_114 (by decide) ?_
              refine lv_topi (fun x60 e61 => ?_)
              have h := h x60 e61
              refine va_iast (f := gA st 3) (n := 5) hx hb hK hP hD hS 2 0 rfl rfl h.1 dX11_set_118 (fun H locs hP hD hS => ?_)
              have h := h.2
              have hP : va_P D vwCl (wM cy ad (sA st 3 (upd (gA st 3) a1.toNatClampNeg x60))) H := hP
              have hD : va_D A (wM cy ad (sA st 3 (upd (gA st 3) a1.toNatClampNeg x60))) := hD
              refine lv_iload hx hb dX11_set_119 (lv_at hl 0 rfl) ?_
              exact hret _ _ _ _ _ _ rfl h hP hD hS dX11_set_121
          · have h := h.2 c56
            refine lv_bipush (v := (-2)) hx hb dX11_set_91 (by decide) ?_
            exact hret _ _ _ _ _ _ rfl h hP hD hS dX11_set_93
    · have h := h.2 c2
      refine lv_bipush (v := 100) hx hb dX11_set_13 (by decide) ?_
      refine lv_goto (tgt := 19) hx hb dX11_set_15 (by decide) ?_
      refine lv_istore_n (lv' := [(3, .int 100), (0, .ref (ad 0)), (1, .int a1), (2, .int a2)]) hx hb dX11_set_19 rfl hl (by decide) rfl (fun ls hl => ?_)
      refine lv_iload_n hx hb dX11_set_20 rfl (lv_at hl 2 rfl) ?_
      refine lv_if_ne (tgt := 30) hx hb dX11_set_21 (by decide) (fun c62 => ?_) (fun c62 => ?_)
      · have h := h.1 c62
        refine lv_iload_n hx hb dX11_set_30 rfl (lv_at hl 2 rfl) ?_
        refine lv_iconst (v := 1) hx hb dX11_set_31 (by decide) ?_
        refine lv_icmp_ne (tgt := 40) hx hb dX11_set_32 (by decide) (fun c63 => ?_) (fun c63 => ?_)
        · have h := h.1 c63
          refine lv_iload_n hx hb dX11_set_40 rfl (lv_at hl 2 rfl) ?_
          refine lv_iconst (v := 2) hx hb dX11_set_41 (by decide) ?_
          refine lv_icmp_ne (tgt := 51) hx hb dX11_set_42 (by decide) (fun c64 => ?_) (fun c64 => ?_)
          · have h := h.1 c64
            refine lv_iload_n hx hb dX11_set_51 rfl (lv_at hl 2 rfl) ?_
            refine lv_iconst (v := 3) hx hb dX11_set_52 (by decide) ?_
            refine lv_icmp_ne (tgt := 61) hx hb dX11_set_53 (by decide) (fun c65 => ?_) (fun c65 => ?_)
            · have h := h.1 c65
              refine lv_sipush (v := 1000) hx hb dX11_set_61 (by decide) ?_
              refine lv_istore (lv' := [(4, .int 1000), (3, .int 100), (0, .ref (ad 0)), (1, .int a1), (2, .int a2)]) hx hb dX11_set_64 hl (by decide) rfl (fun ls hl => ?_)
              refine lv_iload_n hx hb dX11_set_66 rfl (lv_at hl 3 rfl) ?_
              refine lv_i2l (v := a1.toInt64) hx hb dX11_set_67 rfl ?_
              refine lv_lconst (v := 0) hx hb dX11_set_68 (by decide) ?_
              refine lv_ldc2 (v := 4) hx hb hown (hts _ w_6_17) dX11_set_69 ?_
              refine callSIr (rest := []) SF (c_X11_in l D cy tz _ a1.toInt64 0 4 _ h) (cw_RX11_67 hts ⟨Nat.le_of_ble_eq_true rfl, Nat.le_of_ble_eq_true rfl⟩) rfl rfl hK hZ hA hP hD hS rfl hl.1 rfl (Nat.le_of_ble_eq_true rfl) dX11_set_72 ⟨Nat.zero_le _, Nat.zero_le _⟩ (fun r66 H locs h hP hD hS => ?_)
              refine lv_if_eq (tgt := 91) hx hb dX11_set_75 (by decide) (fun c68 => ?_) (fun c68 => ?_)
              · have h := h.1 c68
                refine lv_bipush (v := (-2)) hx hb dX11_set_91 (by decide) ?_
                exact hret _ _ _ _ _ _ rfl h hP hD hS dX11_set_93
              · have h := h.2 c68
                refine lv_iload_n hx hb dX11_set_78 rfl (lv_at hl 4 rfl) ?_
                refine lv_i2l (v := a2.toInt64) hx hb dX11_set_79 rfl ?_
                refine lv_iload_n hx hb dX11_set_80 rfl (lv_at hl 1 rfl) ?_
                refine lv_i2l (v := (100 : Int32).toInt64) hx hb dX11_set_81 rfl ?_
                refine lv_iload hx hb dX11_set_82 (lv_at hl 0 rfl) ?_
                refine lv_i2l (v := (1000 : Int32).toInt64) hx hb dX11_set_84 rfl ?_
                refine callSIr (rest := []) SF (c_X11_in l D cy tz _ a2.toInt64 ((100 : Int32).toInt64) ((1000 : Int32).toInt64) _ h) (cw_RX11_67 hts ⟨Nat.le_of_ble_eq_true rfl, Nat.le_of_ble_eq_true rfl⟩) rfl rfl hK hZ hA hP hD hS rfl hl.1 rfl (Nat.le_of_ble_eq_true rfl) dX11_set_85 ⟨Nat.zero_le _, Nat.zero_le _⟩ (fun r69 H locs h hP hD hS => ?_)
                refine lv_if_ne (tgt := 94) hx hb dX11_set_88 (by decide) (fun c71 => ?_) (fun c71 => ?_)
                · have h := h.1 c71
                  refine lv_aload_n hx hb dX11_set_94 rfl (lv_at hl 2 rfl) ?_
                  refine lv_iload_n hx hb dX11_set_95 rfl (lv_at hl 3 rfl) ?_
                  refine callVIr (rest := []) SF (c_X11_setNow l D cy tz ad st a1 _ h) (cw_RX11_84 hts ⟨Nat.le_of_ble_eq_true rfl, Nat.le_of_ble_eq_true rfl⟩) rfl rfl (va_recv hK hP (ci := 10) (q0 := 0) rfl rfl) hK hZ hA hP hD hS rfl hl.1 rfl (Nat.le_of_ble_eq_true rfl) dX11_set_96 ⟨Nat.zero_le _, Nat.zero_le _⟩ (fun r72 H locs h hP hD hS => ?_)
                  refine lv_istore (lv' := [(5, .int r72), (4, .int 1000), (3, .int 100), (0, .ref (ad 0)), (1, .int a1), (2, .int a2)]) hx hb dX11_set_99 hl (by decide) rfl (fun ls hl => ?_)
                  refine lv_aload_n hx hb dX11_set_101 rfl (lv_at hl 3 rfl) ?_
                  refine va_get (D := D) (ci := 10) (v := .ref (ad 2)) (C := RX11) (T := TX11) (N := 35) hx hb hts inlX11 hown hK hP 0 rfl rfl 3 (by decide) (hts _ w_5_7) (fun _ h9 => h9) rfl dX11_set_102 ?_
                  refine lv_iload_n hx hb dX11_set_105 rfl (lv_at hl 4 rfl) ?_
                  refine lv_iload_n hx hb dX11_set_106 rfl (lv_at hl 4 rfl) ?_
                  refine lv_if_ne (tgt := 117) hx hb dX11_set_107 (by decide) (fun c74 => ?_) (fun c74 => ?_)
                  · have h := h.1 c74
                    refine lv_iload_n hx hb dX11_set_117 rfl (lv_at hl 5 rfl) ?_
                    refine va_iast (f := gA st 3) (n := 5) hx hb hK hP hD hS 2 0 rfl rfl h.1 dX11_set_118 (fun H locs hP hD hS => ?_)
                    have h := h.2
                    have hP : va_P D vwCl (wM cy ad (sA st 3 (upd (gA st 3) a1.toNatClampNeg a2))) H := hP
                    have hD : va_D A (wM cy ad (sA st 3 (upd (gA st 3) a1.toNatClampNeg a2))) := hD
                    refine lv_iload hx hb dX11_set_119 (lv_at hl 0 rfl) ?_
                    exact hret _ _ _ _ _ _ rfl h hP hD hS dX11_set_121
                  · have h := h.2 c74
                    refine lv_iload_n hx hb dX11_set_110 rfl (lv_at hl 5 rfl) ?_
                    refine lv_bipush (v := 100) hx hb dX11_set_111 (by decide) ?_
                    refine lv_isub hx hb dX11_set_113 ?_
                    refine lv_goto (tgt := 118) hx hb dX11_set_114 (by decide) ?_
                    refine lv_topi (fun x75 e76 => ?_)
                    have h := h x75 e76
                    refine va_iast (f := gA st 3) (n := 5) hx hb hK hP hD hS 2 0 rfl rfl h.1 dX11_set_118 (fun H locs hP hD hS => ?_)
                    have h := h.2
                    have hP : va_P D vwCl (wM cy ad (sA st 3 (upd (gA st 3) a1.toNatClampNeg x75))) H := hP
                    have hD : va_D A (wM cy ad (sA st 3 (upd (gA st 3) a1.toNatClampNeg x75))) := hD
                    refine lv_iload hx hb dX11_set_119 (lv_at hl 0 rfl) ?_
                    exact hret _ _ _ _ _ _ rfl h hP hD hS dX11_set_121
                · have h := h.2 c71
                  refine lv_bipush (v := (-2)) hx hb dX11_set_91 (by decide) ?_
                  exact hret _ _ _ _ _ _ rfl h hP hD hS dX11_set_93
            · have h := h.2 c65
              refine lv_bipush (v := 100) hx hb dX11_set_56 (by decide) ?_
              refine lv_goto (tgt := 64) hx hb dX11_set_58 (by decide) ?_
              refine lv_istore (lv' := [(4, .int 100), (3, .int 100), (0, .ref (ad 0)), (1, .int a1), (2, .int a2)]) hx hb dX11_set_64 hl (by decide) rfl (fun ls hl => ?_)
              refine lv_iload_n hx hb dX11_set_66 rfl (lv_at hl 3 rfl) ?_
              refine lv_i2l (v := a1.toInt64) hx hb dX11_set_67 rfl ?_
              refine lv_lconst (v := 0) hx hb dX11_set_68 (by decide) ?_
              refine lv_ldc2 (v := 4) hx hb hown (hts _ w_6_17) dX11_set_69 ?_
              refine callSIr (rest := []) SF (c_X11_in l D cy tz _ a1.toInt64 0 4 _ h) (cw_RX11_67 hts ⟨Nat.le_of_ble_eq_true rfl, Nat.le_of_ble_eq_true rfl⟩) rfl rfl hK hZ hA hP hD hS rfl hl.1 rfl (Nat.le_of_ble_eq_true rfl) dX11_set_72 ⟨Nat.zero_le _, Nat.zero_le _⟩ (fun r77 H locs h hP hD hS => ?_)
              refine lv_if_eq (tgt := 91) hx hb dX11_set_75 (by decide) (fun c79 => ?_) (fun c79 => ?_)
              · have h := h.1 c79
                refine lv_bipush (v := (-2)) hx hb dX11_set_91 (by decide) ?_
                exact hret _ _ _ _ _ _ rfl h hP hD hS dX11_set_93
              · have h := h.2 c79
                refine lv_iload_n hx hb dX11_set_78 rfl (lv_at hl 4 rfl) ?_
                refine lv_i2l (v := a2.toInt64) hx hb dX11_set_79 rfl ?_
                refine lv_iload_n hx hb dX11_set_80 rfl (lv_at hl 1 rfl) ?_
                refine lv_i2l (v := (100 : Int32).toInt64) hx hb dX11_set_81 rfl ?_
                refine lv_iload hx hb dX11_set_82 (lv_at hl 0 rfl) ?_
                refine lv_i2l (v := (100 : Int32).toInt64) hx hb dX11_set_84 rfl ?_
                refine callSIr (rest := []) SF (c_X11_in l D cy tz _ a2.toInt64 ((100 : Int32).toInt64) ((100 : Int32).toInt64) _ h) (cw_RX11_67 hts ⟨Nat.le_of_ble_eq_true rfl, Nat.le_of_ble_eq_true rfl⟩) rfl rfl hK hZ hA hP hD hS rfl hl.1 rfl (Nat.le_of_ble_eq_true rfl) dX11_set_85 ⟨Nat.zero_le _, Nat.zero_le _⟩ (fun r80 H locs h hP hD hS => ?_)
                refine lv_if_ne (tgt := 94) hx hb dX11_set_88 (by decide) (fun c82 => ?_) (fun c82 => ?_)
                · have h := h.1 c82
                  refine lv_aload_n hx hb dX11_set_94 rfl (lv_at hl 2 rfl) ?_
                  refine lv_iload_n hx hb dX11_set_95 rfl (lv_at hl 3 rfl) ?_
                  refine callVIr (rest := []) SF (c_X11_setNow l D cy tz ad st a1 _ h) (cw_RX11_84 hts ⟨Nat.le_of_ble_eq_true rfl, Nat.le_of_ble_eq_true rfl⟩) rfl rfl (va_recv hK hP (ci := 10) (q0 := 0) rfl rfl) hK hZ hA hP hD hS rfl hl.1 rfl (Nat.le_of_ble_eq_true rfl) dX11_set_96 ⟨Nat.zero_le _, Nat.zero_le _⟩ (fun r83 H locs h hP hD hS => ?_)
                  refine lv_istore (lv' := [(5, .int r83), (4, .int 100), (3, .int 100), (0, .ref (ad 0)), (1, .int a1), (2, .int a2)]) hx hb dX11_set_99 hl (by decide) rfl (fun ls hl => ?_)
                  refine lv_aload_n hx hb dX11_set_101 rfl (lv_at hl 3 rfl) ?_
                  refine va_get (D := D) (ci := 10) (v := .ref (ad 2)) (C := RX11) (T := TX11) (N := 35) hx hb hts inlX11 hown hK hP 0 rfl rfl 3 (by decide) (hts _ w_5_7) (fun _ h9 => h9) rfl dX11_set_102 ?_
                  refine lv_iload_n hx hb dX11_set_105 rfl (lv_at hl 4 rfl) ?_
                  refine lv_iload_n hx hb dX11_set_106 rfl (lv_at hl 4 rfl) ?_
                  refine lv_if_ne (tgt := 117) hx hb dX11_set_107 (by decide) (fun c85 => ?_) (fun c85 => ?_)
                  · have h := h.1 c85
                    refine lv_iload_n hx hb dX11_set_117 rfl (lv_at hl 5 rfl) ?_
                    refine va_iast (f := gA st 3) (n := 5) hx hb hK hP hD hS 2 0 rfl rfl h.1 dX11_set_118 (fun H locs hP hD hS => ?_)
                    have h := h.2
                    have hP : va_P D vwCl (wM cy ad (sA st 3 (upd (gA st 3) a1.toNatClampNeg a2))) H := hP
                    have hD : va_D A (wM cy ad (sA st 3 (upd (gA st 3) a1.toNatClampNeg a2))) := hD
                    refine lv_iload hx hb dX11_set_119 (lv_at hl 0 rfl) ?_
                    exact hret _ _ _ _ _ _ rfl h hP hD hS dX11_set_121
                  · have h := h.2 c85
                    refine lv_iload_n hx hb dX11_set_110 rfl (lv_at hl 5 rfl) ?_
                    refine lv_bipush (v := 100) hx hb dX11_set_111 (by decide) ?_
                    refine lv_isub hx hb dX11_set_113 ?_
                    refine lv_goto (tgt := 118) hx hb dX11_set_114 (by decide) ?_
                    refine lv_topi (fun x86 e87 => ?_)
                    have h := h x86 e87
                    refine va_iast (f := gA st 3) (n := 5) hx hb hK hP hD hS 2 0 rfl rfl h.1 dX11_set_118 (fun H locs hP hD hS => ?_)
                    have h := h.2
                    have hP : va_P D vwCl (wM cy ad (sA st 3 (upd (gA st 3) a1.toNatClampNeg x86))) H := hP
                    have hD : va_D A (wM cy ad (sA st 3 (upd (gA st 3) a1.toNatClampNeg x86))) := hD
                    refine lv_iload hx hb dX11_set_119 (lv_at hl 0 rfl) ?_
                    exact hret _ _ _ _ _ _ rfl h hP hD hS dX11_set_121
                · have h := h.2 c82
                  refine lv_bipush (v := (-2)) hx hb dX11_set_91 (by decide) ?_
                  exact hret _ _ _ _ _ _ rfl h hP hD hS dX11_set_93
          · have h := h.2 c64
            refine lv_sipush (v := 200) hx hb dX11_set_45 (by decide) ?_
            refine lv_goto (tgt := 64) hx hb dX11_set_48 (by decide) ?_
            refine lv_istore (lv' := [(4, .int 200), (3, .int 100), (0, .ref (ad 0)), (1, .int a1), (2, .int a2)]) hx hb dX11_set_64 hl (by decide) rfl (fun ls hl => ?_)
            refine lv_iload_n hx hb dX11_set_66 rfl (lv_at hl 3 rfl) ?_
            refine lv_i2l (v := a1.toInt64) hx hb dX11_set_67 rfl ?_
            refine lv_lconst (v := 0) hx hb dX11_set_68 (by decide) ?_
            refine lv_ldc2 (v := 4) hx hb hown (hts _ w_6_17) dX11_set_69 ?_
            refine callSIr (rest := []) SF (c_X11_in l D cy tz _ a1.toInt64 0 4 _ h) (cw_RX11_67 hts ⟨Nat.le_of_ble_eq_true rfl, Nat.le_of_ble_eq_true rfl⟩) rfl rfl hK hZ hA hP hD hS rfl hl.1 rfl (Nat.le_of_ble_eq_true rfl) dX11_set_72 ⟨Nat.zero_le _, Nat.zero_le _⟩ (fun r88 H locs h hP hD hS => ?_)
            refine lv_if_eq (tgt := 91) hx hb dX11_set_75 (by decide) (fun c90 => ?_) (fun c90 => ?_)
            · have h := h.1 c90
              refine lv_bipush (v := (-2)) hx hb dX11_set_91 (by decide) ?_
              exact hret _ _ _ _ _ _ rfl h hP hD hS dX11_set_93
            · have h := h.2 c90
              refine lv_iload_n hx hb dX11_set_78 rfl (lv_at hl 4 rfl) ?_
              refine lv_i2l (v := a2.toInt64) hx hb dX11_set_79 rfl ?_
              refine lv_iload_n hx hb dX11_set_80 rfl (lv_at hl 1 rfl) ?_
              refine lv_i2l (v := (100 : Int32).toInt64) hx hb dX11_set_81 rfl ?_
              refine lv_iload hx hb dX11_set_82 (lv_at hl 0 rfl) ?_
              refine lv_i2l (v := (200 : Int32).toInt64) hx hb dX11_set_84 rfl ?_
              refine callSIr (rest := []) SF (c_X11_in l D cy tz _ a2.toInt64 ((100 : Int32).toInt64) ((200 : Int32).toInt64) _ h) (cw_RX11_67 hts ⟨Nat.le_of_ble_eq_true rfl, Nat.le_of_ble_eq_true rfl⟩) rfl rfl hK hZ hA hP hD hS rfl hl.1 rfl (Nat.le_of_ble_eq_true rfl) dX11_set_85 ⟨Nat.zero_le _, Nat.zero_le _⟩ (fun r91 H locs h hP hD hS => ?_)
              refine lv_if_ne (tgt := 94) hx hb dX11_set_88 (by decide) (fun c93 => ?_) (fun c93 => ?_)
              · have h := h.1 c93
                refine lv_aload_n hx hb dX11_set_94 rfl (lv_at hl 2 rfl) ?_
                refine lv_iload_n hx hb dX11_set_95 rfl (lv_at hl 3 rfl) ?_
                refine callVIr (rest := []) SF (c_X11_setNow l D cy tz ad st a1 _ h) (cw_RX11_84 hts ⟨Nat.le_of_ble_eq_true rfl, Nat.le_of_ble_eq_true rfl⟩) rfl rfl (va_recv hK hP (ci := 10) (q0 := 0) rfl rfl) hK hZ hA hP hD hS rfl hl.1 rfl (Nat.le_of_ble_eq_true rfl) dX11_set_96 ⟨Nat.zero_le _, Nat.zero_le _⟩ (fun r94 H locs h hP hD hS => ?_)
                refine lv_istore (lv' := [(5, .int r94), (4, .int 200), (3, .int 100), (0, .ref (ad 0)), (1, .int a1), (2, .int a2)]) hx hb dX11_set_99 hl (by decide) rfl (fun ls hl => ?_)
                refine lv_aload_n hx hb dX11_set_101 rfl (lv_at hl 3 rfl) ?_
                refine va_get (D := D) (ci := 10) (v := .ref (ad 2)) (C := RX11) (T := TX11) (N := 35) hx hb hts inlX11 hown hK hP 0 rfl rfl 3 (by decide) (hts _ w_5_7) (fun _ h9 => h9) rfl dX11_set_102 ?_
                refine lv_iload_n hx hb dX11_set_105 rfl (lv_at hl 4 rfl) ?_
                refine lv_iload_n hx hb dX11_set_106 rfl (lv_at hl 4 rfl) ?_
                refine lv_if_ne (tgt := 117) hx hb dX11_set_107 (by decide) (fun c96 => ?_) (fun c96 => ?_)
                · have h := h.1 c96
                  refine lv_iload_n hx hb dX11_set_117 rfl (lv_at hl 5 rfl) ?_
                  refine va_iast (f := gA st 3) (n := 5) hx hb hK hP hD hS 2 0 rfl rfl h.1 dX11_set_118 (fun H locs hP hD hS => ?_)
                  have h := h.2
                  have hP : va_P D vwCl (wM cy ad (sA st 3 (upd (gA st 3) a1.toNatClampNeg a2))) H := hP
                  have hD : va_D A (wM cy ad (sA st 3 (upd (gA st 3) a1.toNatClampNeg a2))) := hD
                  refine lv_iload hx hb dX11_set_119 (lv_at hl 0 rfl) ?_
                  exact hret _ _ _ _ _ _ rfl h hP hD hS dX11_set_121
                · have h := h.2 c96
                  refine lv_iload_n hx hb dX11_set_110 rfl (lv_at hl 5 rfl) ?_
                  refine lv_bipush (v := 100) hx hb dX11_set_111 (by decide) ?_
                  refine lv_isub hx hb dX11_set_113 ?_
                  refine lv_goto (tgt := 118) hx hb dX11_set_114 (by decide) ?_
                  refine lv_topi (fun x97 e98 => ?_)
                  have h := h x97 e98
                  refine va_iast (f := gA st 3) (n := 5) hx hb hK hP hD hS 2 0 rfl rfl h.1 dX11_set_118 (fun H locs hP hD hS => ?_)
                  have h := h.2
                  have hP : va_P D vwCl (wM cy ad (sA st 3 (upd (gA st 3) a1.toNatClampNeg x97))) H := hP
                  have hD : va_D A (wM cy ad (sA st 3 (upd (gA st 3) a1.toNatClampNeg x97))) := hD
                  refine lv_iload hx hb dX11_set_119 (lv_at hl 0 rfl) ?_
                  exact hret _ _ _ _ _ _ rfl h hP hD hS dX11_set_121
              · have h := h.2 c93
                refine lv_bipush (v := (-2)) hx hb dX11_set_91 (by decide) ?_
                exact hret _ _ _ _ _ _ rfl h hP hD hS dX11_set_93
        · have h := h.2 c63
          refine lv_bipush (v := 9) hx hb dX11_set_35 (by decide) ?_
          refine lv_goto (tgt := 64) hx hb dX11_set_37 (by decide) ?_
          refine lv_istore (lv' := [(4, .int 9), (3, .int 100), (0, .ref (ad 0)), (1, .int a1), (2, .int a2)]) hx hb dX11_set_64 hl (by decide) rfl (fun ls hl => ?_)
          refine lv_iload_n hx hb dX11_set_66 rfl (lv_at hl 3 rfl) ?_
          refine lv_i2l (v := a1.toInt64) hx hb dX11_set_67 rfl ?_
          refine lv_lconst (v := 0) hx hb dX11_set_68 (by decide) ?_
          refine lv_ldc2 (v := 4) hx hb hown (hts _ w_6_17) dX11_set_69 ?_
          refine callSIr (rest := []) SF (c_X11_in l D cy tz _ a1.toInt64 0 4 _ h) (cw_RX11_67 hts ⟨Nat.le_of_ble_eq_true rfl, Nat.le_of_ble_eq_true rfl⟩) rfl rfl hK hZ hA hP hD hS rfl hl.1 rfl (Nat.le_of_ble_eq_true rfl) dX11_set_72 ⟨Nat.zero_le _, Nat.zero_le _⟩ (fun r99 H locs h hP hD hS => ?_)
          refine lv_if_eq (tgt := 91) hx hb dX11_set_75 (by decide) (fun c101 => ?_) (fun c101 => ?_)
          · have h := h.1 c101
            refine lv_bipush (v := (-2)) hx hb dX11_set_91 (by decide) ?_
            exact hret _ _ _ _ _ _ rfl h hP hD hS dX11_set_93
          · have h := h.2 c101
            refine lv_iload_n hx hb dX11_set_78 rfl (lv_at hl 4 rfl) ?_
            refine lv_i2l (v := a2.toInt64) hx hb dX11_set_79 rfl ?_
            refine lv_iload_n hx hb dX11_set_80 rfl (lv_at hl 1 rfl) ?_
            refine lv_i2l (v := (100 : Int32).toInt64) hx hb dX11_set_81 rfl ?_
            refine lv_iload hx hb dX11_set_82 (lv_at hl 0 rfl) ?_
            refine lv_i2l (v := (9 : Int32).toInt64) hx hb dX11_set_84 rfl ?_
            refine callSIr (rest := []) SF (c_X11_in l D cy tz _ a2.toInt64 ((100 : Int32).toInt64) ((9 : Int32).toInt64) _ h) (cw_RX11_67 hts ⟨Nat.le_of_ble_eq_true rfl, Nat.le_of_ble_eq_true rfl⟩) rfl rfl hK hZ hA hP hD hS rfl hl.1 rfl (Nat.le_of_ble_eq_true rfl) dX11_set_85 ⟨Nat.zero_le _, Nat.zero_le _⟩ (fun r102 H locs h hP hD hS => ?_)
            refine lv_if_ne (tgt := 94) hx hb dX11_set_88 (by decide) (fun c104 => ?_) (fun c104 => ?_)
            · have h := h.1 c104
              refine lv_aload_n hx hb dX11_set_94 rfl (lv_at hl 2 rfl) ?_
              refine lv_iload_n hx hb dX11_set_95 rfl (lv_at hl 3 rfl) ?_
              refine callVIr (rest := []) SF (c_X11_setNow l D cy tz ad st a1 _ h) (cw_RX11_84 hts ⟨Nat.le_of_ble_eq_true rfl, Nat.le_of_ble_eq_true rfl⟩) rfl rfl (va_recv hK hP (ci := 10) (q0 := 0) rfl rfl) hK hZ hA hP hD hS rfl hl.1 rfl (Nat.le_of_ble_eq_true rfl) dX11_set_96 ⟨Nat.zero_le _, Nat.zero_le _⟩ (fun r105 H locs h hP hD hS => ?_)
              refine lv_istore (lv' := [(5, .int r105), (4, .int 9), (3, .int 100), (0, .ref (ad 0)), (1, .int a1), (2, .int a2)]) hx hb dX11_set_99 hl (by decide) rfl (fun ls hl => ?_)
              refine lv_aload_n hx hb dX11_set_101 rfl (lv_at hl 3 rfl) ?_
              refine va_get (D := D) (ci := 10) (v := .ref (ad 2)) (C := RX11) (T := TX11) (N := 35) hx hb hts inlX11 hown hK hP 0 rfl rfl 3 (by decide) (hts _ w_5_7) (fun _ h9 => h9) rfl dX11_set_102 ?_
              refine lv_iload_n hx hb dX11_set_105 rfl (lv_at hl 4 rfl) ?_
              refine lv_iload_n hx hb dX11_set_106 rfl (lv_at hl 4 rfl) ?_
              refine lv_if_ne (tgt := 117) hx hb dX11_set_107 (by decide) (fun c107 => ?_) (fun c107 => ?_)
              · have h := h.1 c107
                refine lv_iload_n hx hb dX11_set_117 rfl (lv_at hl 5 rfl) ?_
                refine va_iast (f := gA st 3) (n := 5) hx hb hK hP hD hS 2 0 rfl rfl h.1 dX11_set_118 (fun H locs hP hD hS => ?_)
                have h := h.2
                have hP : va_P D vwCl (wM cy ad (sA st 3 (upd (gA st 3) a1.toNatClampNeg a2))) H := hP
                have hD : va_D A (wM cy ad (sA st 3 (upd (gA st 3) a1.toNatClampNeg a2))) := hD
                refine lv_iload hx hb dX11_set_119 (lv_at hl 0 rfl) ?_
                exact hret _ _ _ _ _ _ rfl h hP hD hS dX11_set_121
              · have h := h.2 c107
                refine lv_iload_n hx hb dX11_set_110 rfl (lv_at hl 5 rfl) ?_
                refine lv_bipush (v := 100) hx hb dX11_set_111 (by decide) ?_
                refine lv_isub hx hb dX11_set_113 ?_
                refine lv_goto (tgt := 118) hx hb dX11_set_114 (by decide) ?_
                refine lv_topi (fun x108 e109 => ?_)
                have h := h x108 e109
                refine va_iast (f := gA st 3) (n := 5) hx hb hK hP hD hS 2 0 rfl rfl h.1 dX11_set_118 (fun H locs hP hD hS => ?_)
                have h := h.2
                have hP : va_P D vwCl (wM cy ad (sA st 3 (upd (gA st 3) a1.toNatClampNeg x108))) H := hP
                have hD : va_D A (wM cy ad (sA st 3 (upd (gA st 3) a1.toNatClampNeg x108))) := hD
                refine lv_iload hx hb dX11_set_119 (lv_at hl 0 rfl) ?_
                exact hret _ _ _ _ _ _ rfl h hP hD hS dX11_set_121
            · have h := h.2 c104
              refine lv_bipush (v := (-2)) hx hb dX11_set_91 (by decide) ?_
              exact hret _ _ _ _ _ _ rfl h hP hD hS dX11_set_93
      · have h := h.2 c62
        refine lv_sipush (v := 199) hx hb dX11_set_24 (by decide) ?_
        refine lv_goto (tgt := 64) hx hb dX11_set_27 (by decide) ?_
        refine lv_istore (lv' := [(4, .int 199), (3, .int 100), (0, .ref (ad 0)), (1, .int a1), (2, .int a2)]) hx hb dX11_set_64 hl (by decide) rfl (fun ls hl => ?_)
        refine lv_iload_n hx hb dX11_set_66 rfl (lv_at hl 3 rfl) ?_
        refine lv_i2l (v := a1.toInt64) hx hb dX11_set_67 rfl ?_
        refine lv_lconst (v := 0) hx hb dX11_set_68 (by decide) ?_
        refine lv_ldc2 (v := 4) hx hb hown (hts _ w_6_17) dX11_set_69 ?_
        refine callSIr (rest := []) SF (c_X11_in l D cy tz _ a1.toInt64 0 4 _ h) (cw_RX11_67 hts ⟨Nat.le_of_ble_eq_true rfl, Nat.le_of_ble_eq_true rfl⟩) rfl rfl hK hZ hA hP hD hS rfl hl.1 rfl (Nat.le_of_ble_eq_true rfl) dX11_set_72 ⟨Nat.zero_le _, Nat.zero_le _⟩ (fun r110 H locs h hP hD hS => ?_)
        refine lv_if_eq (tgt := 91) hx hb dX11_set_75 (by decide) (fun c112 => ?_) (fun c112 => ?_)
        · have h := h.1 c112
          refine lv_bipush (v := (-2)) hx hb dX11_set_91 (by decide) ?_
          exact hret _ _ _ _ _ _ rfl h hP hD hS dX11_set_93
        · have h := h.2 c112
          refine lv_iload_n hx hb dX11_set_78 rfl (lv_at hl 4 rfl) ?_
          refine lv_i2l (v := a2.toInt64) hx hb dX11_set_79 rfl ?_
          refine lv_iload_n hx hb dX11_set_80 rfl (lv_at hl 1 rfl) ?_
          refine lv_i2l (v := (100 : Int32).toInt64) hx hb dX11_set_81 rfl ?_
          refine lv_iload hx hb dX11_set_82 (lv_at hl 0 rfl) ?_
          refine lv_i2l (v := (199 : Int32).toInt64) hx hb dX11_set_84 rfl ?_
          refine callSIr (rest := []) SF (c_X11_in l D cy tz _ a2.toInt64 ((100 : Int32).toInt64) ((199 : Int32).toInt64) _ h) (cw_RX11_67 hts ⟨Nat.le_of_ble_eq_true rfl, Nat.le_of_ble_eq_true rfl⟩) rfl rfl hK hZ hA hP hD hS rfl hl.1 rfl (Nat.le_of_ble_eq_true rfl) dX11_set_85 ⟨Nat.zero_le _, Nat.zero_le _⟩ (fun r113 H locs h hP hD hS => ?_)
          refine lv_if_ne (tgt := 94) hx hb dX11_set_88 (by decide) (fun c115 => ?_) (fun c115 => ?_)
          · have h := h.1 c115
            refine lv_aload_n hx hb dX11_set_94 rfl (lv_at hl 2 rfl) ?_
            refine lv_iload_n hx hb dX11_set_95 rfl (lv_at hl 3 rfl) ?_
            refine callVIr (rest := []) SF (c_X11_setNow l D cy tz ad st a1 _ h) (cw_RX11_84 hts ⟨Nat.le_of_ble_eq_true rfl, Nat.le_of_ble_eq_true rfl⟩) rfl rfl (va_recv hK hP (ci := 10) (q0 := 0) rfl rfl) hK hZ hA hP hD hS rfl hl.1 rfl (Nat.le_of_ble_eq_true rfl) dX11_set_96 ⟨Nat.zero_le _, Nat.zero_le _⟩ (fun r116 H locs h hP hD hS => ?_)
            refine lv_istore (lv' := [(5, .int r116), (4, .int 199), (3, .int 100), (0, .ref (ad 0)), (1, .int a1), (2, .int a2)]) hx hb dX11_set_99 hl (by decide) rfl (fun ls hl => ?_)
            refine lv_aload_n hx hb dX11_set_101 rfl (lv_at hl 3 rfl) ?_
            refine va_get (D := D) (ci := 10) (v := .ref (ad 2)) (C := RX11) (T := TX11) (N := 35) hx hb hts inlX11 hown hK hP 0 rfl rfl 3 (by decide) (hts _ w_5_7) (fun _ h9 => h9) rfl dX11_set_102 ?_
            refine lv_iload_n hx hb dX11_set_105 rfl (lv_at hl 4 rfl) ?_
            refine lv_iload_n hx hb dX11_set_106 rfl (lv_at hl 4 rfl) ?_
            refine lv_if_ne (tgt := 117) hx hb dX11_set_107 (by decide) (fun c118 => ?_) (fun c118 => ?_)
            · have h := h.1 c118
              refine lv_iload_n hx hb dX11_set_117 rfl (lv_at hl 5 rfl) ?_
              refine va_iast (f := gA st 3) (n := 5) hx hb hK hP hD hS 2 0 rfl rfl h.1 dX11_set_118 (fun H locs hP hD hS => ?_)
              have h := h.2
              have hP : va_P D vwCl (wM cy ad (sA st 3 (upd (gA st 3) a1.toNatClampNeg a2))) H := hP
              have hD : va_D A (wM cy ad (sA st 3 (upd (gA st 3) a1.toNatClampNeg a2))) := hD
              refine lv_iload hx hb dX11_set_119 (lv_at hl 0 rfl) ?_
              exact hret _ _ _ _ _ _ rfl h hP hD hS dX11_set_121
            · have h := h.2 c118
              refine lv_iload_n hx hb dX11_set_110 rfl (lv_at hl 5 rfl) ?_
              refine lv_bipush (v := 100) hx hb dX11_set_111 (by decide) ?_
              refine lv_isub hx hb dX11_set_113 ?_
              refine lv_goto (tgt := 118) hx hb dX11_set_114 (by decide) ?_
              refine lv_topi (fun x119 e120 => ?_)
              have h := h x119 e120
              refine va_iast (f := gA st 3) (n := 5) hx hb hK hP hD hS 2 0 rfl rfl h.1 dX11_set_118 (fun H locs hP hD hS => ?_)
              have h := h.2
              have hP : va_P D vwCl (wM cy ad (sA st 3 (upd (gA st 3) a1.toNatClampNeg x119))) H := hP
              have hD : va_D A (wM cy ad (sA st 3 (upd (gA st 3) a1.toNatClampNeg x119))) := hD
              refine lv_iload hx hb dX11_set_119 (lv_at hl 0 rfl) ?_
              exact hret _ _ _ _ _ _ rfl h hP hD hS dX11_set_121
          · have h := h.2 c115
            refine lv_bipush (v := (-2)) hx hb dX11_set_91 (by decide) ?_
            exact hret _ _ _ _ _ _ rfl h hP hD hS dX11_set_93
  · have h := h.2 c1
    refine lv_iconst (v := 1) hx hb dX11_set_4 (by decide) ?_
    refine lv_goto (tgt := 19) hx hb dX11_set_5 (by decide) ?_
    refine lv_istore_n (lv' := [(3, .int 1), (0, .ref (ad 0)), (1, .int a1), (2, .int a2)]) hx hb dX11_set_19 rfl hl (by decide) rfl (fun ls hl => ?_)
    refine lv_iload_n hx hb dX11_set_20 rfl (lv_at hl 2 rfl) ?_
    refine lv_if_ne (tgt := 30) hx hb dX11_set_21 (by decide) (fun c121 => ?_) (fun c121 => ?_)
    · have h := h.1 c121
      refine lv_iload_n hx hb dX11_set_30 rfl (lv_at hl 2 rfl) ?_
      refine lv_iconst (v := 1) hx hb dX11_set_31 (by decide) ?_
      refine lv_icmp_ne (tgt := 40) hx hb dX11_set_32 (by decide) (fun c122 => ?_) (fun c122 => ?_)
      · have h := h.1 c122
        refine lv_iload_n hx hb dX11_set_40 rfl (lv_at hl 2 rfl) ?_
        refine lv_iconst (v := 2) hx hb dX11_set_41 (by decide) ?_
        refine lv_icmp_ne (tgt := 51) hx hb dX11_set_42 (by decide) (fun c123 => ?_) (fun c123 => ?_)
        · have h := h.1 c123
          refine lv_iload_n hx hb dX11_set_51 rfl (lv_at hl 2 rfl) ?_
          refine lv_iconst (v := 3) hx hb dX11_set_52 (by decide) ?_
          refine lv_icmp_ne (tgt := 61) hx hb dX11_set_53 (by decide) (fun c124 => ?_) (fun c124 => ?_)
          · have h := h.1 c124
            refine lv_sipush (v := 1000) hx hb dX11_set_61 (by decide) ?_
            refine lv_istore (lv' := [(4, .int 1000), (3, .int 1), (0, .ref (ad 0)), (1, .int a1), (2, .int a2)]) hx hb dX11_set_64 hl (by decide) rfl (fun ls hl => ?_)
            refine lv_iload_n hx hb dX11_set_66 rfl (lv_at hl 3 rfl) ?_
            refine lv_i2l (v := a1.toInt64) hx hb dX11_set_67 rfl ?_
            refine lv_lconst (v := 0) hx hb dX11_set_68 (by decide) ?_
            refine lv_ldc2 (v := 4) hx hb hown (hts _ w_6_17) dX11_set_69 ?_
            refine callSIr (rest := []) SF (c_X11_in l D cy tz _ a1.toInt64 0 4 _ h) (cw_RX11_67 hts ⟨Nat.le_of_ble_eq_true rfl, Nat.le_of_ble_eq_true rfl⟩) rfl rfl hK hZ hA hP hD hS rfl hl.1 rfl (Nat.le_of_ble_eq_true rfl) dX11_set_72 ⟨Nat.zero_le _, Nat.zero_le _⟩ (fun r125 H locs h hP hD hS => ?_)
            refine lv_if_eq (tgt := 91) hx hb dX11_set_75 (by decide) (fun c127 => ?_) (fun c127 => ?_)
            · have h := h.1 c127
              refine lv_bipush (v := (-2)) hx hb dX11_set_91 (by decide) ?_
              exact hret _ _ _ _ _ _ rfl h hP hD hS dX11_set_93
            · have h := h.2 c127
              refine lv_iload_n hx hb dX11_set_78 rfl (lv_at hl 4 rfl) ?_
              refine lv_i2l (v := a2.toInt64) hx hb dX11_set_79 rfl ?_
              refine lv_iload_n hx hb dX11_set_80 rfl (lv_at hl 1 rfl) ?_
              refine lv_i2l (v := (1 : Int32).toInt64) hx hb dX11_set_81 rfl ?_
              refine lv_iload hx hb dX11_set_82 (lv_at hl 0 rfl) ?_
              refine lv_i2l (v := (1000 : Int32).toInt64) hx hb dX11_set_84 rfl ?_
              refine callSIr (rest := []) SF (c_X11_in l D cy tz _ a2.toInt64 ((1 : Int32).toInt64) ((1000 : Int32).toInt64) _ h) (cw_RX11_67 hts ⟨Nat.le_of_ble_eq_true rfl, Nat.le_of_ble_eq_true rfl⟩) rfl rfl hK hZ hA hP hD hS rfl hl.1 rfl (Nat.le_of_ble_eq_true rfl) dX11_set_85 ⟨Nat.zero_le _, Nat.zero_le _⟩ (fun r128 H locs h hP hD hS => ?_)
              refine lv_if_ne (tgt := 94) hx hb dX11_set_88 (by decide) (fun c130 => ?_) (fun c130 => ?_)
              · have h := h.1 c130
                refine lv_aload_n hx hb dX11_set_94 rfl (lv_at hl 2 rfl) ?_
                refine lv_iload_n hx hb dX11_set_95 rfl (lv_at hl 3 rfl) ?_
                refine callVIr (rest := []) SF (c_X11_setNow l D cy tz ad st a1 _ h) (cw_RX11_84 hts ⟨Nat.le_of_ble_eq_true rfl, Nat.le_of_ble_eq_true rfl⟩) rfl rfl (va_recv hK hP (ci := 10) (q0 := 0) rfl rfl) hK hZ hA hP hD hS rfl hl.1 rfl (Nat.le_of_ble_eq_true rfl) dX11_set_96 ⟨Nat.zero_le _, Nat.zero_le _⟩ (fun r131 H locs h hP hD hS => ?_)
                refine lv_istore (lv' := [(5, .int r131), (4, .int 1000), (3, .int 1), (0, .ref (ad 0)), (1, .int a1), (2, .int a2)]) hx hb dX11_set_99 hl (by decide) rfl (fun ls hl => ?_)
                refine lv_aload_n hx hb dX11_set_101 rfl (lv_at hl 3 rfl) ?_
                refine va_get (D := D) (ci := 10) (v := .ref (ad 2)) (C := RX11) (T := TX11) (N := 35) hx hb hts inlX11 hown hK hP 0 rfl rfl 3 (by decide) (hts _ w_5_7) (fun _ h9 => h9) rfl dX11_set_102 ?_
                refine lv_iload_n hx hb dX11_set_105 rfl (lv_at hl 4 rfl) ?_
                refine lv_iload_n hx hb dX11_set_106 rfl (lv_at hl 4 rfl) ?_
                refine lv_if_ne (tgt := 117) hx hb dX11_set_107 (by decide) (fun c133 => ?_) (fun c133 => ?_)
                · have h := h.1 c133
                  refine lv_iload_n hx hb dX11_set_117 rfl (lv_at hl 5 rfl) ?_
                  refine va_iast (f := gA st 3) (n := 5) hx hb hK hP hD hS 2 0 rfl rfl h.1 dX11_set_118 (fun H locs hP hD hS => ?_)
                  have h := h.2
                  have hP : va_P D vwCl (wM cy ad (sA st 3 (upd (gA st 3) a1.toNatClampNeg a2))) H := hP
                  have hD : va_D A (wM cy ad (sA st 3 (upd (gA st 3) a1.toNatClampNeg a2))) := hD
                  refine lv_iload hx hb dX11_set_119 (lv_at hl 0 rfl) ?_
                  exact hret _ _ _ _ _ _ rfl h hP hD hS dX11_set_121
                · have h := h.2 c133
                  refine lv_iload_n hx hb dX11_set_110 rfl (lv_at hl 5 rfl) ?_
                  refine lv_bipush (v := 100) hx hb dX11_set_111 (by decide) ?_
                  refine lv_isub hx hb dX11_set_113 ?_
                  refine lv_goto (tgt := 118) hx hb dX11_set_114 (by decide) ?_
                  refine lv_topi (fun x134 e135 => ?_)
                  have h := h x134 e135
                  refine va_iast (f := gA st 3) (n := 5) hx hb hK hP hD hS 2 0 rfl rfl h.1 dX11_set_118 (fun H locs hP hD hS => ?_)
                  have h := h.2
                  have hP : va_P D vwCl (wM cy ad (sA st 3 (upd (gA st 3) a1.toNatClampNeg x134))) H := hP
                  have hD : va_D A (wM cy ad (sA st 3 (upd (gA st 3) a1.toNatClampNeg x134))) := hD
                  refine lv_iload hx hb dX11_set_119 (lv_at hl 0 rfl) ?_
                  exact hret _ _ _ _ _ _ rfl h hP hD hS dX11_set_121
              · have h := h.2 c130
                refine lv_bipush (v := (-2)) hx hb dX11_set_91 (by decide) ?_
                exact hret _ _ _ _ _ _ rfl h hP hD hS dX11_set_93
          · have h := h.2 c124
            refine lv_bipush (v := 100) hx hb dX11_set_56 (by decide) ?_
            refine lv_goto (tgt := 64) hx hb dX11_set_58 (by decide) ?_
            refine lv_istore (lv' := [(4, .int 100), (3, .int 1), (0, .ref (ad 0)), (1, .int a1), (2, .int a2)]) hx hb dX11_set_64 hl (by decide) rfl (fun ls hl => ?_)
            refine lv_iload_n hx hb dX11_set_66 rfl (lv_at hl 3 rfl) ?_
            refine lv_i2l (v := a1.toInt64) hx hb dX11_set_67 rfl ?_
            refine lv_lconst (v := 0) hx hb dX11_set_68 (by decide) ?_
            refine lv_ldc2 (v := 4) hx hb hown (hts _ w_6_17) dX11_set_69 ?_
            refine callSIr (rest := []) SF (c_X11_in l D cy tz _ a1.toInt64 0 4 _ h) (cw_RX11_67 hts ⟨Nat.le_of_ble_eq_true rfl, Nat.le_of_ble_eq_true rfl⟩) rfl rfl hK hZ hA hP hD hS rfl hl.1 rfl (Nat.le_of_ble_eq_true rfl) dX11_set_72 ⟨Nat.zero_le _, Nat.zero_le _⟩ (fun r136 H locs h hP hD hS => ?_)
            refine lv_if_eq (tgt := 91) hx hb dX11_set_75 (by decide) (fun c138 => ?_) (fun c138 => ?_)
            · have h := h.1 c138
              refine lv_bipush (v := (-2)) hx hb dX11_set_91 (by decide) ?_
              exact hret _ _ _ _ _ _ rfl h hP hD hS dX11_set_93
            · have h := h.2 c138
              refine lv_iload_n hx hb dX11_set_78 rfl (lv_at hl 4 rfl) ?_
              refine lv_i2l (v := a2.toInt64) hx hb dX11_set_79 rfl ?_
              refine lv_iload_n hx hb dX11_set_80 rfl (lv_at hl 1 rfl) ?_
              refine lv_i2l (v := (1 : Int32).toInt64) hx hb dX11_set_81 rfl ?_
              refine lv_iload hx hb dX11_set_82 (lv_at hl 0 rfl) ?_
              refine lv_i2l (v := (100 : Int32).toInt64) hx hb dX11_set_84 rfl ?_
              refine callSIr (rest := []) SF (c_X11_in l D cy tz _ a2.toInt64 ((1 : Int32).toInt64) ((100 : Int32).toInt64) _ h) (cw_RX11_67 hts ⟨Nat.le_of_ble_eq_true rfl, Nat.le_of_ble_eq_true rfl⟩) rfl rfl hK hZ hA hP hD hS rfl hl.1 rfl (Nat.le_of_ble_eq_true rfl) dX11_set_85 ⟨Nat.zero_le _, Nat.zero_le _⟩ (fun r139 H locs h hP hD hS => ?_)
              refine lv_if_ne (tgt := 94) hx hb dX11_set_88 (by decide) (fun c141 => ?_) (fun c141 => ?_)
              · have h := h.1 c141
                refine lv_aload_n hx hb dX11_set_94 rfl (lv_at hl 2 rfl) ?_
                refine lv_iload_n hx hb dX11_set_95 rfl (lv_at hl 3 rfl) ?_
                refine callVIr (rest := []) SF (c_X11_setNow l D cy tz ad st a1 _ h) (cw_RX11_84 hts ⟨Nat.le_of_ble_eq_true rfl, Nat.le_of_ble_eq_true rfl⟩) rfl rfl (va_recv hK hP (ci := 10) (q0 := 0) rfl rfl) hK hZ hA hP hD hS rfl hl.1 rfl (Nat.le_of_ble_eq_true rfl) dX11_set_96 ⟨Nat.zero_le _, Nat.zero_le _⟩ (fun r142 H locs h hP hD hS => ?_)
                refine lv_istore (lv' := [(5, .int r142), (4, .int 100), (3, .int 1), (0, .ref (ad 0)), (1, .int a1), (2, .int a2)]) hx hb dX11_set_99 hl (by decide) rfl (fun ls hl => ?_)
                refine lv_aload_n hx hb dX11_set_101 rfl (lv_at hl 3 rfl) ?_
                refine va_get (D := D) (ci := 10) (v := .ref (ad 2)) (C := RX11) (T := TX11) (N := 35) hx hb hts inlX11 hown hK hP 0 rfl rfl 3 (by decide) (hts _ w_5_7) (fun _ h9 => h9) rfl dX11_set_102 ?_
                refine lv_iload_n hx hb dX11_set_105 rfl (lv_at hl 4 rfl) ?_
                refine lv_iload_n hx hb dX11_set_106 rfl (lv_at hl 4 rfl) ?_
                refine lv_if_ne (tgt := 117) hx hb dX11_set_107 (by decide) (fun c144 => ?_) (fun c144 => ?_)
                · have h := h.1 c144
                  refine lv_iload_n hx hb dX11_set_117 rfl (lv_at hl 5 rfl) ?_
                  refine va_iast (f := gA st 3) (n := 5) hx hb hK hP hD hS 2 0 rfl rfl h.1 dX11_set_118 (fun H locs hP hD hS => ?_)
                  have h := h.2
                  have hP : va_P D vwCl (wM cy ad (sA st 3 (upd (gA st 3) a1.toNatClampNeg a2))) H := hP
                  have hD : va_D A (wM cy ad (sA st 3 (upd (gA st 3) a1.toNatClampNeg a2))) := hD
                  refine lv_iload hx hb dX11_set_119 (lv_at hl 0 rfl) ?_
                  exact hret _ _ _ _ _ _ rfl h hP hD hS dX11_set_121
                · have h := h.2 c144
                  refine lv_iload_n hx hb dX11_set_110 rfl (lv_at hl 5 rfl) ?_
                  refine lv_bipush (v := 100) hx hb dX11_set_111 (by decide) ?_
                  refine lv_isub hx hb dX11_set_113 ?_
                  refine lv_goto (tgt := 118) hx hb dX11_set_114 (by decide) ?_
                  refine lv_topi (fun x145 e146 => ?_)
                  have h := h x145 e146
                  refine va_iast (f := gA st 3) (n := 5) hx hb hK hP hD hS 2 0 rfl rfl h.1 dX11_set_118 (fun H locs hP hD hS => ?_)
                  have h := h.2
                  have hP : va_P D vwCl (wM cy ad (sA st 3 (upd (gA st 3) a1.toNatClampNeg x145))) H := hP
                  have hD : va_D A (wM cy ad (sA st 3 (upd (gA st 3) a1.toNatClampNeg x145))) := hD
                  refine lv_iload hx hb dX11_set_119 (lv_at hl 0 rfl) ?_
                  exact hret _ _ _ _ _ _ rfl h hP hD hS dX11_set_121
              · have h := h.2 c141
                refine lv_bipush (v := (-2)) hx hb dX11_set_91 (by decide) ?_
                exact hret _ _ _ _ _ _ rfl h hP hD hS dX11_set_93
        · have h := h.2 c123
          refine lv_sipush (v := 200) hx hb dX11_set_45 (by decide) ?_
          refine lv_goto (tgt := 64) hx hb dX11_set_48 (by decide) ?_
          refine lv_istore (lv' := [(4, .int 200), (3, .int 1), (0, .ref (ad 0)), (1, .int a1), (2, .int a2)]) hx hb dX11_set_64 hl (by decide) rfl (fun ls hl => ?_)
          refine lv_iload_n hx hb dX11_set_66 rfl (lv_at hl 3 rfl) ?_
          refine lv_i2l (v := a1.toInt64) hx hb dX11_set_67 rfl ?_
          refine lv_lconst (v := 0) hx hb dX11_set_68 (by decide) ?_
          refine lv_ldc2 (v := 4) hx hb hown (hts _ w_6_17) dX11_set_69 ?_
          refine callSIr (rest := []) SF (c_X11_in l D cy tz _ a1.toInt64 0 4 _ h) (cw_RX11_67 hts ⟨Nat.le_of_ble_eq_true rfl, Nat.le_of_ble_eq_true rfl⟩) rfl rfl hK hZ hA hP hD hS rfl hl.1 rfl (Nat.le_of_ble_eq_true rfl) dX11_set_72 ⟨Nat.zero_le _, Nat.zero_le _⟩ (fun r147 H locs h hP hD hS => ?_)
          refine lv_if_eq (tgt := 91) hx hb dX11_set_75 (by decide) (fun c149 => ?_) (fun c149 => ?_)
          · have h := h.1 c149
            refine lv_bipush (v := (-2)) hx hb dX11_set_91 (by decide) ?_
            exact hret _ _ _ _ _ _ rfl h hP hD hS dX11_set_93
          · have h := h.2 c149
            refine lv_iload_n hx hb dX11_set_78 rfl (lv_at hl 4 rfl) ?_
            refine lv_i2l (v := a2.toInt64) hx hb dX11_set_79 rfl ?_
            refine lv_iload_n hx hb dX11_set_80 rfl (lv_at hl 1 rfl) ?_
            refine lv_i2l (v := (1 : Int32).toInt64) hx hb dX11_set_81 rfl ?_
            refine lv_iload hx hb dX11_set_82 (lv_at hl 0 rfl) ?_
            refine lv_i2l (v := (200 : Int32).toInt64) hx hb dX11_set_84 rfl ?_
            refine callSIr (rest := []) SF (c_X11_in l D cy tz _ a2.toInt64 ((1 : Int32).toInt64) ((200 : Int32).toInt64) _ h) (cw_RX11_67 hts ⟨Nat.le_of_ble_eq_true rfl, Nat.le_of_ble_eq_true rfl⟩) rfl rfl hK hZ hA hP hD hS rfl hl.1 rfl (Nat.le_of_ble_eq_true rfl) dX11_set_85 ⟨Nat.zero_le _, Nat.zero_le _⟩ (fun r150 H locs h hP hD hS => ?_)
            refine lv_if_ne (tgt := 94) hx hb dX11_set_88 (by decide) (fun c152 => ?_) (fun c152 => ?_)
            · have h := h.1 c152
              refine lv_aload_n hx hb dX11_set_94 rfl (lv_at hl 2 rfl) ?_
              refine lv_iload_n hx hb dX11_set_95 rfl (lv_at hl 3 rfl) ?_
              refine callVIr (rest := []) SF (c_X11_setNow l D cy tz ad st a1 _ h) (cw_RX11_84 hts ⟨Nat.le_of_ble_eq_true rfl, Nat.le_of_ble_eq_true rfl⟩) rfl rfl (va_recv hK hP (ci := 10) (q0 := 0) rfl rfl) hK hZ hA hP hD hS rfl hl.1 rfl (Nat.le_of_ble_eq_true rfl) dX11_set_96 ⟨Nat.zero_le _, Nat.zero_le _⟩ (fun r153 H locs h hP hD hS => ?_)
              refine lv_istore (lv' := [(5, .int r153), (4, .int 200), (3, .int 1), (0, .ref (ad 0)), (1, .int a1), (2, .int a2)]) hx hb dX11_set_99 hl (by decide) rfl (fun ls hl => ?_)
              refine lv_aload_n hx hb dX11_set_101 rfl (lv_at hl 3 rfl) ?_
              refine va_get (D := D) (ci := 10) (v := .ref (ad 2)) (C := RX11) (T := TX11) (N := 35) hx hb hts inlX11 hown hK hP 0 rfl rfl 3 (by decide) (hts _ w_5_7) (fun _ h9 => h9) rfl dX11_set_102 ?_
              refine lv_iload_n hx hb dX11_set_105 rfl (lv_at hl 4 rfl) ?_
              refine lv_iload_n hx hb dX11_set_106 rfl (lv_at hl 4 rfl) ?_
              refine lv_if_ne (tgt := 117) hx hb dX11_set_107 (by decide) (fun c155 => ?_) (fun c155 => ?_)
              · have h := h.1 c155
                refine lv_iload_n hx hb dX11_set_117 rfl (lv_at hl 5 rfl) ?_
                refine va_iast (f := gA st 3) (n := 5) hx hb hK hP hD hS 2 0 rfl rfl h.1 dX11_set_118 (fun H locs hP hD hS => ?_)
                have h := h.2
                have hP : va_P D vwCl (wM cy ad (sA st 3 (upd (gA st 3) a1.toNatClampNeg a2))) H := hP
                have hD : va_D A (wM cy ad (sA st 3 (upd (gA st 3) a1.toNatClampNeg a2))) := hD
                refine lv_iload hx hb dX11_set_119 (lv_at hl 0 rfl) ?_
                exact hret _ _ _ _ _ _ rfl h hP hD hS dX11_set_121
              · have h := h.2 c155
                refine lv_iload_n hx hb dX11_set_110 rfl (lv_at hl 5 rfl) ?_
                refine lv_bipush (v := 100) hx hb dX11_set_111 (by decide) ?_
                refine lv_isub hx hb dX11_set_113 ?_
                refine lv_goto (tgt := 118) hx hb dX11_set_114 (by decide) ?_
                refine lv_topi (fun x156 e157 => ?_)
                have h := h x156 e157
                refine va_iast (f := gA st 3) (n := 5) hx hb hK hP hD hS 2 0 rfl rfl h.1 dX11_set_118 (fun H locs hP hD hS => ?_)
                have h := h.2
                have hP : va_P D vwCl (wM cy ad (sA st 3 (upd (gA st 3) a1.toNatClampNeg x156))) H := hP
                have hD : va_D A (wM cy ad (sA st 3 (upd (gA st 3) a1.toNatClampNeg x156))) := hD
                refine lv_iload hx hb dX11_set_119 (lv_at hl 0 rfl) ?_
                exact hret _ _ _ _ _ _ rfl h hP hD hS dX11_set_121
            · have h := h.2 c152
              refine lv_bipush (v := (-2)) hx hb dX11_set_91 (by decide) ?_
              exact hret _ _ _ _ _ _ rfl h hP hD hS dX11_set_93
      · have h := h.2 c122
        refine lv_bipush (v := 9) hx hb dX11_set_35 (by decide) ?_
        refine lv_goto (tgt := 64) hx hb dX11_set_37 (by decide) ?_
        refine lv_istore (lv' := [(4, .int 9), (3, .int 1), (0, .ref (ad 0)), (1, .int a1), (2, .int a2)]) hx hb dX11_set_64 hl (by decide) rfl (fun ls hl => ?_)
        refine lv_iload_n hx hb dX11_set_66 rfl (lv_at hl 3 rfl) ?_
        refine lv_i2l (v := a1.toInt64) hx hb dX11_set_67 rfl ?_
        refine lv_lconst (v := 0) hx hb dX11_set_68 (by decide) ?_
        refine lv_ldc2 (v := 4) hx hb hown (hts _ w_6_17) dX11_set_69 ?_
        refine callSIr (rest := []) SF (c_X11_in l D cy tz _ a1.toInt64 0 4 _ h) (cw_RX11_67 hts ⟨Nat.le_of_ble_eq_true rfl, Nat.le_of_ble_eq_true rfl⟩) rfl rfl hK hZ hA hP hD hS rfl hl.1 rfl (Nat.le_of_ble_eq_true rfl) dX11_set_72 ⟨Nat.zero_le _, Nat.zero_le _⟩ (fun r158 H locs h hP hD hS => ?_)
        refine lv_if_eq (tgt := 91) hx hb dX11_set_75 (by decide) (fun c160 => ?_) (fun c160 => ?_)
        · have h := h.1 c160
          refine lv_bipush (v := (-2)) hx hb dX11_set_91 (by decide) ?_
          exact hret _ _ _ _ _ _ rfl h hP hD hS dX11_set_93
        · have h := h.2 c160
          refine lv_iload_n hx hb dX11_set_78 rfl (lv_at hl 4 rfl) ?_
          refine lv_i2l (v := a2.toInt64) hx hb dX11_set_79 rfl ?_
          refine lv_iload_n hx hb dX11_set_80 rfl (lv_at hl 1 rfl) ?_
          refine lv_i2l (v := (1 : Int32).toInt64) hx hb dX11_set_81 rfl ?_
          refine lv_iload hx hb dX11_set_82 (lv_at hl 0 rfl) ?_
          refine lv_i2l (v := (9 : Int32).toInt64) hx hb dX11_set_84 rfl ?_
          refine callSIr (rest := []) SF (c_X11_in l D cy tz _ a2.toInt64 ((1 : Int32).toInt64) ((9 : Int32).toInt64) _ h) (cw_RX11_67 hts ⟨Nat.le_of_ble_eq_true rfl, Nat.le_of_ble_eq_true rfl⟩) rfl rfl hK hZ hA hP hD hS rfl hl.1 rfl (Nat.le_of_ble_eq_true rfl) dX11_set_85 ⟨Nat.zero_le _, Nat.zero_le _⟩ (fun r161 H locs h hP hD hS => ?_)
          refine lv_if_ne (tgt := 94) hx hb dX11_set_88 (by decide) (fun c163 => ?_) (fun c163 => ?_)
          · have h := h.1 c163
            refine lv_aload_n hx hb dX11_set_94 rfl (lv_at hl 2 rfl) ?_
            refine lv_iload_n hx hb dX11_set_95 rfl (lv_at hl 3 rfl) ?_
            refine callVIr (rest := []) SF (c_X11_setNow l D cy tz ad st a1 _ h) (cw_RX11_84 hts ⟨Nat.le_of_ble_eq_true rfl, Nat.le_of_ble_eq_true rfl⟩) rfl rfl (va_recv hK hP (ci := 10) (q0 := 0) rfl rfl) hK hZ hA hP hD hS rfl hl.1 rfl (Nat.le_of_ble_eq_true rfl) dX11_set_96 ⟨Nat.zero_le _, Nat.zero_le _⟩ (fun r164 H locs h hP hD hS => ?_)
            refine lv_istore (lv' := [(5, .int r164), (4, .int 9), (3, .int 1), (0, .ref (ad 0)), (1, .int a1), (2, .int a2)]) hx hb dX11_set_99 hl (by decide) rfl (fun ls hl => ?_)
            refine lv_aload_n hx hb dX11_set_101 rfl (lv_at hl 3 rfl) ?_
            refine va_get (D := D) (ci := 10) (v := .ref (ad 2)) (C := RX11) (T := TX11) (N := 35) hx hb hts inlX11 hown hK hP 0 rfl rfl 3 (by decide) (hts _ w_5_7) (fun _ h9 => h9) rfl dX11_set_102 ?_
            refine lv_iload_n hx hb dX11_set_105 rfl (lv_at hl 4 rfl) ?_
            refine lv_iload_n hx hb dX11_set_106 rfl (lv_at hl 4 rfl) ?_
            refine lv_if_ne (tgt := 117) hx hb dX11_set_107 (by decide) (fun c166 => ?_) (fun c166 => ?_)
            · have h := h.1 c166
              refine lv_iload_n hx hb dX11_set_117 rfl (lv_at hl 5 rfl) ?_
              refine va_iast (f := gA st 3) (n := 5) hx hb hK hP hD hS 2 0 rfl rfl h.1 dX11_set_118 (fun H locs hP hD hS => ?_)
              have h := h.2
              have hP : va_P D vwCl (wM cy ad (sA st 3 (upd (gA st 3) a1.toNatClampNeg a2))) H := hP
              have hD : va_D A (wM cy ad (sA st 3 (upd (gA st 3) a1.toNatClampNeg a2))) := hD
              refine lv_iload hx hb dX11_set_119 (lv_at hl 0 rfl) ?_
              exact hret _ _ _ _ _ _ rfl h hP hD hS dX11_set_121
            · have h := h.2 c166
              refine lv_iload_n hx hb dX11_set_110 rfl (lv_at hl 5 rfl) ?_
              refine lv_bipush (v := 100) hx hb dX11_set_111 (by decide) ?_
              refine lv_isub hx hb dX11_set_113 ?_
              refine lv_goto (tgt := 118) hx hb dX11_set_114 (by decide) ?_
              refine lv_topi (fun x167 e168 => ?_)
              have h := h x167 e168
              refine va_iast (f := gA st 3) (n := 5) hx hb hK hP hD hS 2 0 rfl rfl h.1 dX11_set_118 (fun H locs hP hD hS => ?_)
              have h := h.2
              have hP : va_P D vwCl (wM cy ad (sA st 3 (upd (gA st 3) a1.toNatClampNeg x167))) H := hP
              have hD : va_D A (wM cy ad (sA st 3 (upd (gA st 3) a1.toNatClampNeg x167))) := hD
              refine lv_iload hx hb dX11_set_119 (lv_at hl 0 rfl) ?_
              exact hret _ _ _ _ _ _ rfl h hP hD hS dX11_set_121
          · have h := h.2 c163
            refine lv_bipush (v := (-2)) hx hb dX11_set_91 (by decide) ?_
            exact hret _ _ _ _ _ _ rfl h hP hD hS dX11_set_93
    · have h := h.2 c121
      refine lv_sipush (v := 199) hx hb dX11_set_24 (by decide) ?_
      refine lv_goto (tgt := 64) hx hb dX11_set_27 (by decide) ?_
      refine lv_istore (lv' := [(4, .int 199), (3, .int 1), (0, .ref (ad 0)), (1, .int a1), (2, .int a2)]) hx hb dX11_set_64 hl (by decide) rfl (fun ls hl => ?_)
      refine lv_iload_n hx hb dX11_set_66 rfl (lv_at hl 3 rfl) ?_
      refine lv_i2l (v := a1.toInt64) hx hb dX11_set_67 rfl ?_
      refine lv_lconst (v := 0) hx hb dX11_set_68 (by decide) ?_
      refine lv_ldc2 (v := 4) hx hb hown (hts _ w_6_17) dX11_set_69 ?_
      refine callSIr (rest := []) SF (c_X11_in l D cy tz _ a1.toInt64 0 4 _ h) (cw_RX11_67 hts ⟨Nat.le_of_ble_eq_true rfl, Nat.le_of_ble_eq_true rfl⟩) rfl rfl hK hZ hA hP hD hS rfl hl.1 rfl (Nat.le_of_ble_eq_true rfl) dX11_set_72 ⟨Nat.zero_le _, Nat.zero_le _⟩ (fun r169 H locs h hP hD hS => ?_)
      refine lv_if_eq (tgt := 91) hx hb dX11_set_75 (by decide) (fun c171 => ?_) (fun c171 => ?_)
      · have h := h.1 c171
        refine lv_bipush (v := (-2)) hx hb dX11_set_91 (by decide) ?_
        exact hret _ _ _ _ _ _ rfl h hP hD hS dX11_set_93
      · have h := h.2 c171
        refine lv_iload_n hx hb dX11_set_78 rfl (lv_at hl 4 rfl) ?_
        refine lv_i2l (v := a2.toInt64) hx hb dX11_set_79 rfl ?_
        refine lv_iload_n hx hb dX11_set_80 rfl (lv_at hl 1 rfl) ?_
        refine lv_i2l (v := (1 : Int32).toInt64) hx hb dX11_set_81 rfl ?_
        refine lv_iload hx hb dX11_set_82 (lv_at hl 0 rfl) ?_
        refine lv_i2l (v := (199 : Int32).toInt64) hx hb dX11_set_84 rfl ?_
        refine callSIr (rest := []) SF (c_X11_in l D cy tz _ a2.toInt64 ((1 : Int32).toInt64) ((199 : Int32).toInt64) _ h) (cw_RX11_67 hts ⟨Nat.le_of_ble_eq_true rfl, Nat.le_of_ble_eq_true rfl⟩) rfl rfl hK hZ hA hP hD hS rfl hl.1 rfl (Nat.le_of_ble_eq_true rfl) dX11_set_85 ⟨Nat.zero_le _, Nat.zero_le _⟩ (fun r172 H locs h hP hD hS => ?_)
        refine lv_if_ne (tgt := 94) hx hb dX11_set_88 (by decide) (fun c174 => ?_) (fun c174 => ?_)
        · have h := h.1 c174
          refine lv_aload_n hx hb dX11_set_94 rfl (lv_at hl 2 rfl) ?_
          refine lv_iload_n hx hb dX11_set_95 rfl (lv_at hl 3 rfl) ?_
          refine callVIr (rest := []) SF (c_X11_setNow l D cy tz ad st a1 _ h) (cw_RX11_84 hts ⟨Nat.le_of_ble_eq_true rfl, Nat.le_of_ble_eq_true rfl⟩) rfl rfl (va_recv hK hP (ci := 10) (q0 := 0) rfl rfl) hK hZ hA hP hD hS rfl hl.1 rfl (Nat.le_of_ble_eq_true rfl) dX11_set_96 ⟨Nat.zero_le _, Nat.zero_le _⟩ (fun r175 H locs h hP hD hS => ?_)
          refine lv_istore (lv' := [(5, .int r175), (4, .int 199), (3, .int 1), (0, .ref (ad 0)), (1, .int a1), (2, .int a2)]) hx hb dX11_set_99 hl (by decide) rfl (fun ls hl => ?_)
          refine lv_aload_n hx hb dX11_set_101 rfl (lv_at hl 3 rfl) ?_
          refine va_get (D := D) (ci := 10) (v := .ref (ad 2)) (C := RX11) (T := TX11) (N := 35) hx hb hts inlX11 hown hK hP 0 rfl rfl 3 (by decide) (hts _ w_5_7) (fun _ h9 => h9) rfl dX11_set_102 ?_
          refine lv_iload_n hx hb dX11_set_105 rfl (lv_at hl 4 rfl) ?_
          refine lv_iload_n hx hb dX11_set_106 rfl (lv_at hl 4 rfl) ?_
          refine lv_if_ne (tgt := 117) hx hb dX11_set_107 (by decide) (fun c177 => ?_) (fun c177 => ?_)
          · have h := h.1 c177
            refine lv_iload_n hx hb dX11_set_117 rfl (lv_at hl 5 rfl) ?_
            refine va_iast (f := gA st 3) (n := 5) hx hb hK hP hD hS 2 0 rfl rfl h.1 dX11_set_118 (fun H locs hP hD hS => ?_)
            have h := h.2
            have hP : va_P D vwCl (wM cy ad (sA st 3 (upd (gA st 3) a1.toNatClampNeg a2))) H := hP
            have hD : va_D A (wM cy ad (sA st 3 (upd (gA st 3) a1.toNatClampNeg a2))) := hD
            refine lv_iload hx hb dX11_set_119 (lv_at hl 0 rfl) ?_
            exact hret _ _ _ _ _ _ rfl h hP hD hS dX11_set_121
          · have h := h.2 c177
            refine lv_iload_n hx hb dX11_set_110 rfl (lv_at hl 5 rfl) ?_
            refine lv_bipush (v := 100) hx hb dX11_set_111 (by decide) ?_
            refine lv_isub hx hb dX11_set_113 ?_
            refine lv_goto (tgt := 118) hx hb dX11_set_114 (by decide) ?_
            refine lv_topi (fun x178 e179 => ?_)
            have h := h x178 e179
            refine va_iast (f := gA st 3) (n := 5) hx hb hK hP hD hS 2 0 rfl rfl h.1 dX11_set_118 (fun H locs hP hD hS => ?_)
            have h := h.2
            have hP : va_P D vwCl (wM cy ad (sA st 3 (upd (gA st 3) a1.toNatClampNeg x178))) H := hP
            have hD : va_D A (wM cy ad (sA st 3 (upd (gA st 3) a1.toNatClampNeg x178))) := hD
            refine lv_iload hx hb dX11_set_119 (lv_at hl 0 rfl) ?_
            exact hret _ _ _ _ _ _ rfl h hP hD hS dX11_set_121
        · have h := h.2 c174
          refine lv_bipush (v := (-2)) hx hb dX11_set_91 (by decide) ?_
          exact hret _ _ _ _ _ _ rfl h hP hD hS dX11_set_93
-- X11_say
def rm_X11_say : Room := { frames := 1, cells := 0, slots := 0, locals := 25 }
abbrev ws_X11_say : List Cond := .code yX11_say cX11_say 2 (some .int) :: wsL_law
def wp_X11_say (st : St) (a1 : Int32) (post : Int32 → St → Prop) : Prop := wp_X11_in a1.toInt64 33 126 (fun r1 => ((¬ r1 = 0) → (((¬ gI st 7 = 40) → (vp_in (gI st 7) 40 ∧ (∀ x5 : Int32, x5 = (gI st 7 + 1) → (post x5 (sI (sA st 6 (upd (gA st 6) (gI st 7).toNatClampNeg a1)) 7 x5))))) ∧ ((gI st 7 = 40) → (post (-4) st)))) ∧ ((r1 = 0) → (post (-2) st)))
set_option maxHeartbeats 4000000 in
set_option maxRecDepth 100000 in
theorem c_X11_say (l : Launch) (D : va_G) (cy : Nat → ClassId) (tz : Nat → Nat) (ad : Nat → Nat) (st : St) (a1 : Int32) (post : Int32 → St → Prop) (h : wp_X11_say st a1 post) : CtI l D cy tz yX11_say ws_X11_say rm_X11_say [.ref (ad 0), .int a1] (wM cy ad st) (wM cy ad) post := by
  refine CtI.of (own := RX11) (nm := "say") (lv := [(0, .ref (ad 0)), (1, .int a1)]) (plainFor_of_name (by decide)) rfl rfl (Nat.le_of_ble_eq_true rfl) rfl ?_
  intro p e s m args below meth c A Q ls B hP hD hS hl hret
  obtain ⟨hx, hb, hml, hown, hts, hK, hZ, hA, hnm⟩ := B
  have SF : CallFix p m c cX11_say 2 s args wsL_law RX11 := ⟨hx, hb, hml, hown, hts⟩
  unfold wp_X11_say at h
  refine lv_iload_n hx hb dX11_say_0 rfl (lv_at hl 1 rfl) ?_
  refine lv_i2l (v := a1.toInt64) hx hb dX11_say_1 rfl ?_
  refine lv_ldc2 (v := 33) hx hb hown (hts _ w_7_16) dX11_say_2 ?_
  refine lv_ldc2 (v := 126) hx hb hown (hts _ w_7_17) dX11_say_5 ?_
  refine callSIr (rest := []) SF (c_X11_in l D cy tz _ a1.toInt64 33 126 _ h) (cw_RX11_67 hts ⟨Nat.le_of_ble_eq_true rfl, Nat.le_of_ble_eq_true rfl⟩) rfl rfl hK hZ hA hP hD hS rfl hl.1 rfl (Nat.le_of_ble_eq_true rfl) dX11_say_8 ⟨Nat.zero_le _, Nat.zero_le _⟩ (fun r1 H locs h hP hD hS => ?_)
  refine lv_if_ne (tgt := 17) hx hb dX11_say_11 (by decide) (fun c3 => ?_) (fun c3 => ?_)
  · have h := h.1 c3
    refine lv_aload_n hx hb dX11_say_17 rfl (lv_at hl 0 rfl) ?_
    refine va_get (D := D) (ci := 10) (v := .int (gI st 7)) (C := RX11) (T := TX11) (N := 35) hx hb hts inlX11 hown hK hP 0 rfl rfl 7 (by decide) (hts _ w_7_18) (fun _ h9 => h9) rfl dX11_say_18 ?_
    refine lv_bipush (v := 40) hx hb dX11_say_21 (by decide) ?_
    refine lv_icmp_ne (tgt := 29) hx hb dX11_say_23 (by decide) (fun c4 => ?_) (fun c4 => ?_)
    · have h := h.1 c4
      refine lv_aload_n hx hb dX11_say_29 rfl (lv_at hl 0 rfl) ?_
      refine va_get (D := D) (ci := 10) (v := .ref (ad 5)) (C := RX11) (T := TX11) (N := 35) hx hb hts inlX11 hown hK hP 0 rfl rfl 6 (by decide) (hts _ w_5_10) (fun _ h9 => h9) rfl dX11_say_30 ?_
      refine lv_aload_n hx hb dX11_say_33 rfl (lv_at hl 0 rfl) ?_
      refine va_get (D := D) (ci := 10) (v := .int (gI st 7)) (C := RX11) (T := TX11) (N := 35) hx hb hts inlX11 hown hK hP 0 rfl rfl 7 (by decide) (hts _ w_7_18) (fun _ h9 => h9) rfl dX11_say_34 ?_
      refine lv_iload_n hx hb dX11_say_37 rfl (lv_at hl 1 rfl) ?_
      refine va_iast (f := gA st 6) (n := 40) hx hb hK hP hD hS 5 0 rfl rfl h.1 dX11_say_38 (fun H locs hP hD hS => ?_)
      have h := h.2
      have hP : va_P D vwCl (wM cy ad (sA st 6 (upd (gA st 6) (gI st 7).toNatClampNeg a1))) H := hP
      have hD : va_D A (wM cy ad (sA st 6 (upd (gA st 6) (gI st 7).toNatClampNeg a1))) := hD
      refine lv_aload_n hx hb dX11_say_39 rfl (lv_at hl 0 rfl) ?_
      refine lv_dup hx hb dX11_say_40 rfl ?_
      refine va_get (D := D) (ci := 10) (v := .int (gI st 7)) (C := RX11) (T := TX11) (N := 35) hx hb hts inlX11 hown hK hP 0 rfl rfl 7 (by decide) (hts _ w_7_18) (fun _ h9 => h9) rfl dX11_say_41 ?_
      refine lv_iconst (v := 1) hx hb dX11_say_44 (by decide) ?_
      refine lv_iadd hx hb dX11_say_45 ?_
      refine lv_topi (fun x5 e6 => ?_)
      have h := h x5 e6
      refine va_put (D := D) (ci := 10) (v := .int x5) (ty := .int) (C := RX11) (T := TX11) (N := 35) hx hb hts inlX11 tyX11 tyX11_ok nmX11 hown hK hP hD hS 0 rfl rfl 7 (by decide) (hts _ w_7_18) (fun _ h9 => h9) rfl (by decide +kernel) rfl rfl (Nat.le_of_ble_eq_true rfl) dX11_say_46 (fun H locs hP hD hS => ?_)
      have hP : va_P D vwCl (wM cy ad (sI (sA st 6 (upd (gA st 6) (gI st 7).toNatClampNeg a1)) 7 x5)) H := hP
      have hD : va_D A (wM cy ad (sI (sA st 6 (upd (gA st 6) (gI st 7).toNatClampNeg a1)) 7 x5)) := hD
      refine lv_aload_n hx hb dX11_say_49 rfl (lv_at hl 0 rfl) ?_
      refine va_get (D := D) (ci := 10) (v := .int x5) (C := RX11) (T := TX11) (N := 35) hx hb hts inlX11 hown hK hP 0 rfl rfl 7 (by decide) (hts _ w_7_18) (fun _ h9 => h9) rfl dX11_say_50 ?_
      exact hret _ _ _ _ _ _ rfl h hP hD hS dX11_say_53
    · have h := h.2 c4
      refine lv_bipush (v := (-4)) hx hb dX11_say_26 (by decide) ?_
      exact hret _ _ _ _ _ _ rfl h hP hD hS dX11_say_28
  · have h := h.2 c3
    refine lv_bipush (v := (-2)) hx hb dX11_say_14 (by decide) ?_
    exact hret _ _ _ _ _ _ rfl h hP hD hS dX11_say_16
-- X11_wipe
def rm_X11_wipe : Room := { frames := 0, cells := 0, slots := 0, locals := 0 }
abbrev ws_X11_wipe : List Cond := .code yX11_wipe cX11_wipe 2 (some .int) :: wsL_law
def wp_X11_wipe (st : St) (post : Int32 → St → Prop) : Prop := ∀ x1 : Int32, x1 = gI st 7 → (post x1 (sI st 7 0))
set_option maxHeartbeats 4000000 in
set_option maxRecDepth 100000 in
theorem c_X11_wipe (l : Launch) (D : va_G) (cy : Nat → ClassId) (tz : Nat → Nat) (ad : Nat → Nat) (st : St) (post : Int32 → St → Prop) (h : wp_X11_wipe st post) : CtI l D cy tz yX11_wipe ws_X11_wipe rm_X11_wipe [.ref (ad 0)] (wM cy ad st) (wM cy ad) post := by
  refine CtI.of (own := RX11) (nm := "wipe") (lv := [(0, .ref (ad 0))]) (plainFor_of_name (by decide)) rfl rfl (Nat.le_of_ble_eq_true rfl) rfl ?_
  intro p e s m args below meth c A Q ls B hP hD hS hl hret
  obtain ⟨hx, hb, hml, hown, hts, hK, hZ, hA, hnm⟩ := B
  have SF : CallFix p m c cX11_wipe 2 s args wsL_law RX11 := ⟨hx, hb, hml, hown, hts⟩
  unfold wp_X11_wipe at h
  refine lv_aload_n hx hb dX11_wipe_0 rfl (lv_at hl 0 rfl) ?_
  refine va_get (D := D) (ci := 10) (v := .int (gI st 7)) (C := RX11) (T := TX11) (N := 35) hx hb hts inlX11 hown hK hP 0 rfl rfl 7 (by decide) (hts _ w_7_18) (fun _ h9 => h9) rfl dX11_wipe_1 ?_
  refine lv_topi (fun x1 e2 => ?_)
  have h := h x1 e2
  refine lv_istore_n (lv' := [(1, .int x1), (0, .ref (ad 0))]) hx hb dX11_wipe_4 rfl hl (by decide) rfl (fun ls hl => ?_)
  refine lv_aload_n hx hb dX11_wipe_5 rfl (lv_at hl 1 rfl) ?_
  refine lv_iconst (v := 0) hx hb dX11_wipe_6 (by decide) ?_
  refine va_put (D := D) (ci := 10) (v := .int 0) (ty := .int) (C := RX11) (T := TX11) (N := 35) hx hb hts inlX11 tyX11 tyX11_ok nmX11 hown hK hP hD hS 0 rfl rfl 7 (by decide) (hts _ w_7_18) (fun _ h9 => h9) rfl (by decide +kernel) rfl rfl (Nat.le_of_ble_eq_true rfl) dX11_wipe_7 (fun H locs hP hD hS => ?_)
  have hP : va_P D vwCl (wM cy ad (sI st 7 0)) H := hP
  have hD : va_D A (wM cy ad (sI st 7 0)) := hD
  refine lv_iload_n hx hb dX11_wipe_10 rfl (lv_at hl 0 rfl) ?_
  exact hret _ _ _ _ _ _ rfl h hP hD hS dX11_wipe_11
-- X11_isDigit
def rm_X11_isDigit : Room := { frames := 1, cells := 0, slots := 0, locals := 25 }
abbrev ws_X11_isDigit : List Cond := .code yX11_isDigit cX11_isDigit 1 (some .boolean) :: wsL_law
def wp_X11_isDigit (a1 : Int32) (post : Int32 → Prop) : Prop := wp_X11_in a1.toInt64 48 57 (fun r1 => r1 &&& 1 = r1 ∧ post r1)
set_option maxHeartbeats 4000000 in
set_option maxRecDepth 100000 in
theorem c_X11_isDigit (l : Launch) (D : va_G) (cy : Nat → ClassId) (tz : Nat → Nat) (w : va_W) (a1 : Int32) (post : Int32 → Prop) (h : wp_X11_isDigit a1 post) : CtI l D cy tz yX11_isDigit ws_X11_isDigit rm_X11_isDigit [.int a1] w (fun _ : Unit => w) (fun r _ => post r) := by
  refine CtI.of (own := RX11) (nm := "isDigit") (lv := [(0, .int a1)]) (plainFor_of_name (by decide)) rfl rfl (Nat.le_of_ble_eq_true rfl) rfl ?_
  intro p e s m args below meth c A Q ls B hP hD hS hl hret
  obtain ⟨hx, hb, hml, hown, hts, hK, hZ, hA, hnm⟩ := B
  have SF : CallFix p m c cX11_isDigit 1 s args wsL_law RX11 := ⟨hx, hb, hml, hown, hts⟩
  unfold wp_X11_isDigit at h
  refine lv_iload_n hx hb dX11_isDigit_0 rfl (lv_at hl 0 rfl) ?_
  refine lv_i2l (v := a1.toInt64) hx hb dX11_isDigit_1 rfl ?_
  refine lv_ldc2 (v := 48) hx hb hown (hts _ w_9_2) dX11_isDigit_2 ?_
  refine lv_ldc2 (v := 57) hx hb hown (hts _ w_8_22) dX11_isDigit_5 ?_
  refine callSIr (rest := []) SF (c_X11_in l D cy tz _ a1.toInt64 48 57 _ h) (cw_RX11_67 hts ⟨Nat.le_of_ble_eq_true rfl, Nat.le_of_ble_eq_true rfl⟩) rfl rfl hK hZ hA hP hD hS rfl hl.1 rfl (Nat.le_of_ble_eq_true rfl) dX11_isDigit_8 ⟨Nat.zero_le _, Nat.zero_le _⟩ (fun r1 H locs h hP hD hS => ?_)
  exact hret _ () _ _ _ _ (narrow_b h.1) h.2 hP hD hS dX11_isDigit_11
