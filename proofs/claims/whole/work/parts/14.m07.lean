-- X11_fault
def rm_X11_fault : Room := { frames := 2, cells := 0, slots := 0, locals := 45 }
abbrev ws_X11_fault : List Cond := .code yX11_fault cX11_fault 4 (some .int) :: wsL_law
theorem cw_RX11_101 {R : Room} {s : State} {args : Array Value} (hts : ∀ w ∈ wsL_law, w.before args s = true) (hR : rm_X11_isDigit.frames + 1 ≤ R.frames ∧ 8 + (1 + 11) + rm_X11_isDigit.locals ≤ R.locals) : CallB R s args RX11 101 yX11_isDigit cX11_isDigit 1 (some .boolean) ws_X11_isDigit rm_X11_isDigit rm_X11_isDigit.cells rm_X11_isDigit.slots 1 ∧ (Cond.static yX11_isDigit).before args s = true := va_cwS 1 hts (gdS w_8_23 w_9_0 w_1_5 w_9_1) rfl rfl rfl (by decide +kernel) hR
def wp_X11_fault_L4 (post : Int32 → Prop) (K : Int32 → Prop) (st : St) : Nat → Int32 → Int32 → Prop
  | 0, _, _ => False
  | n4 + 1, v1, v2 => ((gI st 7 ≤ v2) → (K v1)) ∧ ((¬ gI st 7 ≤ v2) → (vp_in v2 40 ∧ (∀ x5 : Int32, x5 = (gA st 6 v2.toNatClampNeg) → (((¬ v1 = 1) → (((¬ v1 = 2) → (((¬ v1 = 3) → (((¬ x5 = 46) → (((x5 = 43) → (∀ x12 : Int32, x12 = v2 + 1 → (wp_X11_fault_L4 post K st n4 2 x12))) ∧ ((¬ x5 = 43) → (((¬ x5 = 45) → (post v2)) ∧ ((x5 = 45) → (∀ x15 : Int32, x15 = v2 + 1 → (wp_X11_fault_L4 post K st n4 2 x15))))))) ∧ ((x5 = 46) → (∀ x17 : Int32, x17 = v2 + 1 → (wp_X11_fault_L4 post K st n4 1 x17))))) ∧ ((v1 = 3) → (wp_X11_isDigit x5 (fun r19 => ((r19 = 0) → (((¬ x5 = 46) → (((x5 = 43) → (∀ x24 : Int32, x24 = v2 + 1 → (wp_X11_fault_L4 post K st n4 2 x24))) ∧ ((¬ x5 = 43) → (((¬ x5 = 45) → (post v2)) ∧ ((x5 = 45) → (∀ x27 : Int32, x27 = v2 + 1 → (wp_X11_fault_L4 post K st n4 2 x27))))))) ∧ ((x5 = 46) → (∀ x29 : Int32, x29 = v2 + 1 → (wp_X11_fault_L4 post K st n4 1 x29))))) ∧ ((¬ r19 = 0) → (∀ x31 : Int32, x31 = v2 + 1 → (wp_X11_fault_L4 post K st n4 0 x31)))))))) ∧ ((v1 = 2) → (wp_X11_isDigit x5 (fun r33 => ((¬ r33 = 0) → (∀ x36 : Int32, x36 = v2 + 1 → (wp_X11_fault_L4 post K st n4 3 x36))) ∧ ((r33 = 0) → (post v2))))))) ∧ ((v1 = 1) → (wp_X11_in x5.toInt64 49 57 (fun r38 => ((¬ r38 = 0) → (∀ x41 : Int32, x41 = v2 + 1 → (wp_X11_fault_L4 post K st n4 0 x41))) ∧ ((r38 = 0) → (post v2)))))))))
def wp_X11_fault (st : St) (post : Int32 → Prop) : Prop := ∃ m4 : Nat, wp_X11_fault_L4 post (fun v43 => ((v43 = 1) → (post (gI st 7))) ∧ ((¬ v43 = 1) → (((¬ v43 = 2) → (post (-6))) ∧ ((v43 = 2) → (post (gI st 7)))))) st m4 0 0
set_option maxHeartbeats 4000000 in
set_option maxRecDepth 100000 in
theorem c_X11_fault (l : Launch) (D : va_G) (cy : Nat → ClassId) (tz : Nat → Nat) (ad : Nat → Nat) (st : St) (post : Int32 → Prop) (h : wp_X11_fault st post) : CtI l D cy tz yX11_fault ws_X11_fault rm_X11_fault [.ref (ad 0)] (wM cy ad st) (fun _ : Unit => wM cy ad st) (fun r _ => post r) := by
  refine CtI.of (own := RX11) (nm := "fault") (lv := [(0, .ref (ad 0))]) (plainFor_of_name (by decide)) rfl rfl (Nat.le_of_ble_eq_true rfl) rfl ?_
  intro p e s m args below meth c A Q ls B hP hD hS hl hret
  obtain ⟨hx, hb, hml, hown, hts, hK, hZ, hA, hnm⟩ := B
  have SF : CallFix p m c cX11_fault 4 s args wsL_law RX11 := ⟨hx, hb, hml, hown, hts⟩
  unfold wp_X11_fault at h
  refine lv_iconst (v := 0) hx hb dX11_fault_0 (by decide) ?_
  refine lv_istore_n (lv' := [(1, .int 0), (0, .ref (ad 0))]) hx hb dX11_fault_1 rfl hl (by decide) rfl (fun ls hl => ?_)
  refine lv_iconst (v := 0) hx hb dX11_fault_2 (by decide) ?_
  refine lv_istore_n (lv' := [(2, .int 0), (1, .int 0), (0, .ref (ad 0))]) hx hb dX11_fault_3 rfl hl (by decide) rfl (fun ls hl => ?_)
  have loop4 : ∀ (K : Int32 → Prop), (∀ (v43 : Int32) (H : Heap) (locs : List Loc) (ls : Array Slot), K v43 → va_P D vwCl (wM cy ad st) H → va_D A (wM cy ad st) → va_S A s.heap H locs → lv_has ls 4 [(0, .ref (ad 0)), (1, .int v43)] → W p l e rm_X11_fault s m args below meth c H locs 0 0 Q (F0 m 117 ls [])) → ∀ (n : Nat) (v1 : Int32) (v2 : Int32) (H : Heap) (locs : List Loc) (ls : Array Slot), wp_X11_fault_L4 post K st n v1 v2 → va_P D vwCl (wM cy ad st) H → va_D A (wM cy ad st) → va_S A s.heap H locs → lv_has ls 4 [(0, .ref (ad 0)), (1, .int v1), (2, .int v2)] → W p l e rm_X11_fault s m args below meth c H locs 0 0 Q (F0 m 4 ls []) := by
    intro K hE4 n
    induction n with
    | zero => intro v1 v2 H locs ls h; exact h.elim
    | succ n ih4 =>
      intro v1 v2 H locs ls h hP hD hS hl
      rw [wp_X11_fault_L4] at h
      refine lv_iload_n hx hb dX11_fault_4 rfl (lv_at hl 2 rfl) ?_
      refine lv_aload_n hx hb dX11_fault_5 rfl (lv_at hl 0 rfl) ?_
      refine va_get (D := D) (ci := 10) (v := .int (gI st 7)) (C := RX11) (T := TX11) (N := 35) hx hb hts inlX11 hown hK hP 0 rfl rfl 7 (by decide) (hts _ w_7_18) (fun _ h9 => h9) rfl dX11_fault_6 ?_
      refine lv_icmp_ge (tgt := 117) hx hb dX11_fault_9 (by decide) (fun c4 => ?_) (fun c4 => ?_)
      · have h := h.1 c4
        exact hE4 _ _ _ _ h hP hD hS (lv_sub hl [0, 1] rfl)
      · have h := h.2 c4
        refine lv_aload_n hx hb dX11_fault_12 rfl (lv_at hl 0 rfl) ?_
        refine va_get (D := D) (ci := 10) (v := .ref (ad 5)) (C := RX11) (T := TX11) (N := 35) hx hb hts inlX11 hown hK hP 0 rfl rfl 6 (by decide) (hts _ w_5_10) (fun _ h9 => h9) rfl dX11_fault_13 ?_
        refine lv_iload_n hx hb dX11_fault_16 rfl (lv_at hl 2 rfl) ?_
        refine va_iald (f := gA st 6) (n := 40) hx hb hK hP 5 0 rfl rfl h.1 dX11_fault_17 ?_
        have h := h.2
        refine lv_topi (fun x5 e6 => ?_)
        have h := h x5 e6
        refine lv_istore_n (lv' := [(3, .int x5), (0, .ref (ad 0)), (1, .int v1), (2, .int v2)]) hx hb dX11_fault_18 rfl hl (by decide) rfl (fun ls hl => ?_)
        refine lv_iload_n hx hb dX11_fault_19 rfl (lv_at hl 2 rfl) ?_
        refine lv_iconst (v := 1) hx hb dX11_fault_20 (by decide) ?_
        refine lv_icmp_ne (tgt := 45) hx hb dX11_fault_21 (by decide) (fun c7 => ?_) (fun c7 => ?_)
        · have h := h.1 c7
          refine lv_iload_n hx hb dX11_fault_45 rfl (lv_at hl 2 rfl) ?_
          refine lv_iconst (v := 2) hx hb dX11_fault_46 (by decide) ?_
          refine lv_icmp_ne (tgt := 64) hx hb dX11_fault_47 (by decide) (fun c8 => ?_) (fun c8 => ?_)
          · have h := h.1 c8
            refine lv_iload_n hx hb dX11_fault_64 rfl (lv_at hl 2 rfl) ?_
            refine lv_iconst (v := 3) hx hb dX11_fault_65 (by decide) ?_
            refine lv_icmp_ne (tgt := 81) hx hb dX11_fault_66 (by decide) (fun c9 => ?_) (fun c9 => ?_)
            · have h := h.1 c9
              refine lv_iload_n hx hb dX11_fault_81 rfl (lv_at hl 0 rfl) ?_
              refine lv_bipush (v := 46) hx hb dX11_fault_82 (by decide) ?_
              refine lv_icmp_ne (tgt := 92) hx hb dX11_fault_84 (by decide) (fun c10 => ?_) (fun c10 => ?_)
              · have h := h.1 c10
                refine lv_iload_n hx hb dX11_fault_92 rfl (lv_at hl 0 rfl) ?_
                refine lv_bipush (v := 43) hx hb dX11_fault_93 (by decide) ?_
                refine lv_icmp_eq (tgt := 104) hx hb dX11_fault_95 (by decide) (fun c11 => ?_) (fun c11 => ?_)
                · have h := h.1 c11
                  refine lv_iconst (v := 2) hx hb dX11_fault_104 (by decide) ?_
                  refine lv_istore_n (lv' := [(1, .int 2), (3, .int x5), (0, .ref (ad 0)), (2, .int v2)]) hx hb dX11_fault_105 rfl hl (by decide) rfl (fun ls hl => ?_)
                  refine lv_goto (tgt := 111) hx hb dX11_fault_106 (by decide) ?_
                  obtain ⟨x12, e13⟩ : ∃ z : Int32, z = v2 + 1 := ⟨_, rfl⟩
                  have h := h x12 e13
                  refine lv_iinc (v := x12) (lv' := [(2, .int x12), (1, .int 2), (3, .int x5), (0, .ref (ad 0))]) hx hb dX11_fault_111 hl (k := 3) rfl (by rw [e13]; rfl) (by decide) rfl (fun ls hl => ?_)
                  refine lv_goto (tgt := 4) hx hb dX11_fault_114 (by decide) ?_
                  exact ih4 _ _ _ _ _ h hP hD hS (lv_sub hl [3, 1, 0] rfl)
                · have h := h.2 c11
                  refine lv_iload_n hx hb dX11_fault_98 rfl (lv_at hl 0 rfl) ?_
                  refine lv_bipush (v := 45) hx hb dX11_fault_99 (by decide) ?_
                  refine lv_icmp_ne (tgt := 109) hx hb dX11_fault_101 (by decide) (fun c14 => ?_) (fun c14 => ?_)
                  · have h := h.1 c14
                    refine lv_iload_n hx hb dX11_fault_109 rfl (lv_at hl 3 rfl) ?_
                    exact hret _ () _ _ _ _ rfl h hP hD hS dX11_fault_110
                  · have h := h.2 c14
                    refine lv_iconst (v := 2) hx hb dX11_fault_104 (by decide) ?_
                    refine lv_istore_n (lv' := [(1, .int 2), (3, .int x5), (0, .ref (ad 0)), (2, .int v2)]) hx hb dX11_fault_105 rfl hl (by decide) rfl (fun ls hl => ?_)
                    refine lv_goto (tgt := 111) hx hb dX11_fault_106 (by decide) ?_
                    obtain ⟨x15, e16⟩ : ∃ z : Int32, z = v2 + 1 := ⟨_, rfl⟩
                    have h := h x15 e16
                    refine lv_iinc (v := x15) (lv' := [(2, .int x15), (1, .int 2), (3, .int x5), (0, .ref (ad 0))]) hx hb dX11_fault_111 hl (k := 3) rfl (by rw [e16]; rfl) (by decide) rfl (fun ls hl => ?_)
                    refine lv_goto (tgt := 4) hx hb dX11_fault_114 (by decide) ?_
                    exact ih4 _ _ _ _ _ h hP hD hS (lv_sub hl [3, 1, 0] rfl)
              · have h := h.2 c10
                refine lv_iconst (v := 1) hx hb dX11_fault_87 (by decide) ?_
                refine lv_istore_n (lv' := [(1, .int 1), (3, .int x5), (0, .ref (ad 0)), (2, .int v2)]) hx hb dX11_fault_88 rfl hl (by decide) rfl (fun ls hl => ?_)
                refine lv_goto (tgt := 111) hx hb dX11_fault_89 (by decide) ?_
                obtain ⟨x17, e18⟩ : ∃ z : Int32, z = v2 + 1 := ⟨_, rfl⟩
                have h := h x17 e18
                refine lv_iinc (v := x17) (lv' := [(2, .int x17), (1, .int 1), (3, .int x5), (0, .ref (ad 0))]) hx hb dX11_fault_111 hl (k := 3) rfl (by rw [e18]; rfl) (by decide) rfl (fun ls hl => ?_)
                refine lv_goto (tgt := 4) hx hb dX11_fault_114 (by decide) ?_
                exact ih4 _ _ _ _ _ h hP hD hS (lv_sub hl [3, 1, 0] rfl)
            · have h := h.2 c9
              refine lv_iload_n hx hb dX11_fault_69 rfl (lv_at hl 0 rfl) ?_
              refine callSIr (rest := []) SF (c_X11_isDigit l D cy tz _ x5 _ h) (cw_RX11_101 hts ⟨Nat.le_of_ble_eq_true rfl, Nat.le_of_ble_eq_true rfl⟩) rfl rfl hK hZ hA hP hD hS rfl hl.1 rfl (Nat.le_of_ble_eq_true rfl) dX11_fault_70 ⟨Nat.zero_le _, Nat.zero_le _⟩ (fun r19 H locs h hP hD hS => ?_)
              refine lv_if_eq (tgt := 81) hx hb dX11_fault_73 (by decide) (fun c21 => ?_) (fun c21 => ?_)
              · have h := h.1 c21
                refine lv_iload_n hx hb dX11_fault_81 rfl (lv_at hl 0 rfl) ?_
                refine lv_bipush (v := 46) hx hb dX11_fault_82 (by decide) ?_
                refine lv_icmp_ne (tgt := 92) hx hb dX11_fault_84 (by decide) (fun c22 => ?_) (fun c22 => ?_)
                · have h := h.1 c22
                  refine lv_iload_n hx hb dX11_fault_92 rfl (lv_at hl 0 rfl) ?_
                  refine lv_bipush (v := 43) hx hb dX11_fault_93 (by decide) ?_
                  refine lv_icmp_eq (tgt := 104) hx hb dX11_fault_95 (by decide) (fun c23 => ?_) (fun c23 => ?_)
                  · have h := h.1 c23
                    refine lv_iconst (v := 2) hx hb dX11_fault_104 (by decide) ?_
                    refine lv_istore_n (lv' := [(1, .int 2), (3, .int x5), (0, .ref (ad 0)), (2, .int v2)]) hx hb dX11_fault_105 rfl hl (by decide) rfl (fun ls hl => ?_)
                    refine lv_goto (tgt := 111) hx hb dX11_fault_106 (by decide) ?_
                    obtain ⟨x24, e25⟩ : ∃ z : Int32, z = v2 + 1 := ⟨_, rfl⟩
                    have h := h x24 e25
                    refine lv_iinc (v := x24) (lv' := [(2, .int x24), (1, .int 2), (3, .int x5), (0, .ref (ad 0))]) hx hb dX11_fault_111 hl (k := 3) rfl (by rw [e25]; rfl) (by decide) rfl (fun ls hl => ?_)
                    refine lv_goto (tgt := 4) hx hb dX11_fault_114 (by decide) ?_
                    exact ih4 _ _ _ _ _ h hP hD hS (lv_sub hl [3, 1, 0] rfl)
                  · have h := h.2 c23
                    refine lv_iload_n hx hb dX11_fault_98 rfl (lv_at hl 0 rfl) ?_
                    refine lv_bipush (v := 45) hx hb dX11_fault_99 (by decide) ?_
                    refine lv_icmp_ne (tgt := 109) hx hb dX11_fault_101 (by decide) (fun c26 => ?_) (fun c26 => ?_)
                    · have h := h.1 c26
                      refine lv_iload_n hx hb dX11_fault_109 rfl (lv_at hl 3 rfl) ?_
                      exact hret _ () _ _ _ _ rfl h hP hD hS dX11_fault_110
                    · have h := h.2 c26
                      refine lv_iconst (v := 2) hx hb dX11_fault_104 (by decide) ?_
                      refine lv_istore_n (lv' := [(1, .int 2), (3, .int x5), (0, .ref (ad 0)), (2, .int v2)]) hx hb dX11_fault_105 rfl hl (by decide) rfl (fun ls hl => ?_)
                      refine lv_goto (tgt := 111) hx hb dX11_fault_106 (by decide) ?_
                      obtain ⟨x27, e28⟩ : ∃ z : Int32, z = v2 + 1 := ⟨_, rfl⟩
                      have h := h x27 e28
                      refine lv_iinc (v := x27) (lv' := [(2, .int x27), (1, .int 2), (3, .int x5), (0, .ref (ad 0))]) hx hb dX11_fault_111 hl (k := 3) rfl (by rw [e28]; rfl) (by decide) rfl (fun ls hl => ?_)
                      refine lv_goto (tgt := 4) hx hb dX11_fault_114 (by decide) ?_
                      exact ih4 _ _ _ _ _ h hP hD hS (lv_sub hl [3, 1, 0] rfl)
                · have h := h.2 c22
                  refine lv_iconst (v := 1) hx hb dX11_fault_87 (by decide) ?_
                  refine lv_istore_n (lv' := [(1, .int 1), (3, .int x5), (0, .ref (ad 0)), (2, .int v2)]) hx hb dX11_fault_88 rfl hl (by decide) rfl (fun ls hl => ?_)
                  refine lv_goto (tgt := 111) hx hb dX11_fault_89 (by decide) ?_
                  obtain ⟨x29, e30⟩ : ∃ z : Int32, z = v2 + 1 := ⟨_, rfl⟩
                  have h := h x29 e30
                  refine lv_iinc (v := x29) (lv' := [(2, .int x29), (1, .int 1), (3, .int x5), (0, .ref (ad 0))]) hx hb dX11_fault_111 hl (k := 3) rfl (by rw [e30]; rfl) (by decide) rfl (fun ls hl => ?_)
                  refine lv_goto (tgt := 4) hx hb dX11_fault_114 (by decide) ?_
                  exact ih4 _ _ _ _ _ h hP hD hS (lv_sub hl [3, 1, 0] rfl)
              · have h := h.2 c21
                refine lv_iconst (v := 0) hx hb dX11_fault_76 (by decide) ?_
                refine lv_istore_n (lv' := [(1, .int 0), (3, .int x5), (0, .ref (ad 0)), (2, .int v2)]) hx hb dX11_fault_77 rfl hl (by decide) rfl (fun ls hl => ?_)
                refine lv_goto (tgt := 111) hx hb dX11_fault_78 (by decide) ?_
                obtain ⟨x31, e32⟩ : ∃ z : Int32, z = v2 + 1 := ⟨_, rfl⟩
                have h := h x31 e32
                refine lv_iinc (v := x31) (lv' := [(2, .int x31), (1, .int 0), (3, .int x5), (0, .ref (ad 0))]) hx hb dX11_fault_111 hl (k := 3) rfl (by rw [e32]; rfl) (by decide) rfl (fun ls hl => ?_)
                refine lv_goto (tgt := 4) hx hb dX11_fault_114 (by decide) ?_
                exact ih4 _ _ _ _ _ h hP hD hS (lv_sub hl [3, 1, 0] rfl)
          · have h := h.2 c8
            refine lv_iload_n hx hb dX11_fault_50 rfl (lv_at hl 0 rfl) ?_
            refine callSIr (rest := []) SF (c_X11_isDigit l D cy tz _ x5 _ h) (cw_RX11_101 hts ⟨Nat.le_of_ble_eq_true rfl, Nat.le_of_ble_eq_true rfl⟩) rfl rfl hK hZ hA hP hD hS rfl hl.1 rfl (Nat.le_of_ble_eq_true rfl) dX11_fault_51 ⟨Nat.zero_le _, Nat.zero_le _⟩ (fun r33 H locs h hP hD hS => ?_)
            refine lv_if_ne (tgt := 59) hx hb dX11_fault_54 (by decide) (fun c35 => ?_) (fun c35 => ?_)
            · have h := h.1 c35
              refine lv_iconst (v := 3) hx hb dX11_fault_59 (by decide) ?_
              refine lv_istore_n (lv' := [(1, .int 3), (3, .int x5), (0, .ref (ad 0)), (2, .int v2)]) hx hb dX11_fault_60 rfl hl (by decide) rfl (fun ls hl => ?_)
              refine lv_goto (tgt := 111) hx hb dX11_fault_61 (by decide) ?_
              obtain ⟨x36, e37⟩ : ∃ z : Int32, z = v2 + 1 := ⟨_, rfl⟩
              have h := h x36 e37
              refine lv_iinc (v := x36) (lv' := [(2, .int x36), (1, .int 3), (3, .int x5), (0, .ref (ad 0))]) hx hb dX11_fault_111 hl (k := 3) rfl (by rw [e37]; rfl) (by decide) rfl (fun ls hl => ?_)
              refine lv_goto (tgt := 4) hx hb dX11_fault_114 (by decide) ?_
              exact ih4 _ _ _ _ _ h hP hD hS (lv_sub hl [3, 1, 0] rfl)
            · have h := h.2 c35
              refine lv_iload_n hx hb dX11_fault_57 rfl (lv_at hl 3 rfl) ?_
              exact hret _ () _ _ _ _ rfl h hP hD hS dX11_fault_58
        · have h := h.2 c7
          refine lv_iload_n hx hb dX11_fault_24 rfl (lv_at hl 0 rfl) ?_
          refine lv_i2l (v := x5.toInt64) hx hb dX11_fault_25 rfl ?_
          refine lv_ldc2 (v := 49) hx hb hown (hts _ w_8_21) dX11_fault_26 ?_
          refine lv_ldc2 (v := 57) hx hb hown (hts _ w_8_22) dX11_fault_29 ?_
          refine callSIr (rest := []) SF (c_X11_in l D cy tz _ x5.toInt64 49 57 _ h) (cw_RX11_67 hts ⟨Nat.le_of_ble_eq_true rfl, Nat.le_of_ble_eq_true rfl⟩) rfl rfl hK hZ hA hP hD hS rfl hl.1 rfl (Nat.le_of_ble_eq_true rfl) dX11_fault_32 ⟨Nat.zero_le _, Nat.zero_le _⟩ (fun r38 H locs h hP hD hS => ?_)
          refine lv_if_ne (tgt := 40) hx hb dX11_fault_35 (by decide) (fun c40 => ?_) (fun c40 => ?_)
          · have h := h.1 c40
            refine lv_iconst (v := 0) hx hb dX11_fault_40 (by decide) ?_
            refine lv_istore_n (lv' := [(1, .int 0), (3, .int x5), (0, .ref (ad 0)), (2, .int v2)]) hx hb dX11_fault_41 rfl hl (by decide) rfl (fun ls hl => ?_)
            refine lv_goto (tgt := 111) hx hb dX11_fault_42 (by decide) ?_
            obtain ⟨x41, e42⟩ : ∃ z : Int32, z = v2 + 1 := ⟨_, rfl⟩
            have h := h x41 e42
            refine lv_iinc (v := x41) (lv' := [(2, .int x41), (1, .int 0), (3, .int x5), (0, .ref (ad 0))]) hx hb dX11_fault_111 hl (k := 3) rfl (by rw [e42]; rfl) (by decide) rfl (fun ls hl => ?_)
            refine lv_goto (tgt := 4) hx hb dX11_fault_114 (by decide) ?_
            exact ih4 _ _ _ _ _ h hP hD hS (lv_sub hl [3, 1, 0] rfl)
          · have h := h.2 c40
            refine lv_iload_n hx hb dX11_fault_38 rfl (lv_at hl 3 rfl) ?_
            exact hret _ () _ _ _ _ rfl h hP hD hS dX11_fault_39
  obtain ⟨n, h⟩ := h
  refine loop4 _ ?_ n _ _ _ _ _ h hP hD hS (lv_sub hl [2, 1, 0] rfl)
  intro v43 H locs ls h hP hD hS hl
  refine lv_iload_n hx hb dX11_fault_117 rfl (lv_at hl 1 rfl) ?_
  refine lv_iconst (v := 1) hx hb dX11_fault_118 (by decide) ?_
  refine lv_icmp_eq (tgt := 127) hx hb dX11_fault_119 (by decide) (fun c45 => ?_) (fun c45 => ?_)
  · have h := h.1 c45
    refine lv_aload_n hx hb dX11_fault_127 rfl (lv_at hl 0 rfl) ?_
    refine va_get (D := D) (ci := 10) (v := .int (gI st 7)) (C := RX11) (T := TX11) (N := 35) hx hb hts inlX11 hown hK hP 0 rfl rfl 7 (by decide) (hts _ w_7_18) (fun _ h9 => h9) rfl dX11_fault_128 ?_
    refine lv_goto (tgt := 136) hx hb dX11_fault_131 (by decide) ?_
    exact hret _ () _ _ _ _ rfl h hP hD hS dX11_fault_136
  · have h := h.2 c45
    refine lv_iload_n hx hb dX11_fault_122 rfl (lv_at hl 1 rfl) ?_
    refine lv_iconst (v := 2) hx hb dX11_fault_123 (by decide) ?_
    refine lv_icmp_ne (tgt := 134) hx hb dX11_fault_124 (by decide) (fun c46 => ?_) (fun c46 => ?_)
    · have h := h.1 c46
      refine lv_bipush (v := (-6)) hx hb dX11_fault_134 (by decide) ?_
      exact hret _ () _ _ _ _ rfl h hP hD hS dX11_fault_136
    · have h := h.2 c46
      refine lv_aload_n hx hb dX11_fault_127 rfl (lv_at hl 0 rfl) ?_
      refine va_get (D := D) (ci := 10) (v := .int (gI st 7)) (C := RX11) (T := TX11) (N := 35) hx hb hts inlX11 hown hK hP 0 rfl rfl 7 (by decide) (hts _ w_7_18) (fun _ h9 => h9) rfl dX11_fault_128 ?_
      refine lv_goto (tgt := 136) hx hb dX11_fault_131 (by decide) ?_
      exact hret _ () _ _ _ _ rfl h hP hD hS dX11_fault_136
-- X11_push
def rm_X11_push : Room := { frames := 3, cells := 0, slots := 0, locals := 68 }
abbrev ws_X11_push : List Cond := .code yX11_push cX11_push 5 (some .int) :: wsL_law
theorem cw_RX11_105 {R : Room} {s : State} {args : Array Value} (hts : ∀ w ∈ wsL_law, w.before args s = true) (hR : rm_X11_fault.frames + 1 ≤ R.frames ∧ 8 + (4 + 11) + rm_X11_fault.locals ≤ R.locals) : CallW R s args RX11 RX11 105 yX11_fault cX11_fault 4 (some .int) ws_X11_fault rm_X11_fault rm_X11_fault.cells rm_X11_fault.slots 0 := cwV 0 hts (gdV w_10_3 w_8_18 w_8_19 w_1_5 w_8_20) rfl rfl rfl (by decide +kernel) hR
def wp_X11_push_L24 (post : Int32 → St → Prop) (K : St → Prop) : Nat → St → Int32 → Int32 → Prop
  | 0, _, _, _ => False
  | n24 + 1, t6, v4, v5 => ((gI t6 7 ≤ v5) → (K t6)) ∧ ((¬ gI t6 7 ≤ v5) → (vp_in v5 40 ∧ (∀ x8 : Int32, x8 = (gA t6 6 v5.toNatClampNeg) → (vp_in (v5 + 1) 40 ∧ (∀ x10 : Int32, x10 = ((gA t6 6 (v5 + 1).toNatClampNeg) - 48) → (∀ x12 : Int32, x12 = v5 + 2 → (∀ x14 : Int32, x14 = (gI t6 11 + 1) → (((¬ x8 = 46) → (((gI t6 7 ≤ x12) → (vp_in (gI t6 10) 20 ∧ (((¬ x8 = 43) → (∀ x19 : Int32, x19 = (-x10) → (vp_in (gI t6 10) 20 ∧ (∀ x21 : Int32, x21 = (gI t6 10 + 1) → (wp_X11_push_L24 post K n24 (sI (sA (sA (sI t6 11 x14) 8 (upd (gA t6 8) (gI t6 10).toNatClampNeg v4)) 9 (upd (gA t6 9) (gI t6 10).toNatClampNeg x19)) 10 x21) v4 x12))))) ∧ ((x8 = 43) → (vp_in (gI t6 10) 20 ∧ (∀ x23 : Int32, x23 = (gI t6 10 + 1) → (wp_X11_push_L24 post K n24 (sI (sA (sA (sI t6 11 x14) 8 (upd (gA t6 8) (gI t6 10).toNatClampNeg v4)) 9 (upd (gA t6 9) (gI t6 10).toNatClampNeg x10)) 10 x23) v4 x12))))))) ∧ ((¬ gI t6 7 ≤ x12) → (vp_in x12 40 ∧ (wp_X11_isDigit (gA t6 6 x12.toNatClampNeg) (fun r25 => ((r25 = 0) → (vp_in (gI t6 10) 20 ∧ (((¬ x8 = 43) → (∀ x29 : Int32, x29 = (-x10) → (vp_in (gI t6 10) 20 ∧ (∀ x31 : Int32, x31 = (gI t6 10 + 1) → (wp_X11_push_L24 post K n24 (sI (sA (sA (sI t6 11 x14) 8 (upd (gA t6 8) (gI t6 10).toNatClampNeg v4)) 9 (upd (gA t6 9) (gI t6 10).toNatClampNeg x29)) 10 x31) v4 x12))))) ∧ ((x8 = 43) → (vp_in (gI t6 10) 20 ∧ (∀ x33 : Int32, x33 = (gI t6 10 + 1) → (wp_X11_push_L24 post K n24 (sI (sA (sA (sI t6 11 x14) 8 (upd (gA t6 8) (gI t6 10).toNatClampNeg v4)) 9 (upd (gA t6 9) (gI t6 10).toNatClampNeg x10)) 10 x33) v4 x12))))))) ∧ ((¬ r25 = 0) → (vp_in x12 40 ∧ (∀ x35 : Int32, x35 = (((10 * x10) + (gA t6 6 x12.toNatClampNeg)) - 48) → (∀ x37 : Int32, x37 = x12 + 1 → (vp_in (gI t6 10) 20 ∧ (((¬ x8 = 43) → (∀ x40 : Int32, x40 = (-x35) → (vp_in (gI t6 10) 20 ∧ (∀ x42 : Int32, x42 = (gI t6 10 + 1) → (wp_X11_push_L24 post K n24 (sI (sA (sA (sI t6 11 x14) 8 (upd (gA t6 8) (gI t6 10).toNatClampNeg v4)) 9 (upd (gA t6 9) (gI t6 10).toNatClampNeg x40)) 10 x42) v4 x37))))) ∧ ((x8 = 43) → (vp_in (gI t6 10) 20 ∧ (∀ x44 : Int32, x44 = (gI t6 10 + 1) → (wp_X11_push_L24 post K n24 (sI (sA (sA (sI t6 11 x14) 8 (upd (gA t6 8) (gI t6 10).toNatClampNeg v4)) 9 (upd (gA t6 9) (gI t6 10).toNatClampNeg x35)) 10 x44) v4 x37)))))))))))))))) ∧ ((x8 = 46) → (∀ x46 : Int32, x46 = (v4 + x10) → (wp_X11_push_L24 post K n24 (sI t6 11 x14) x46 x12)))))))))))
def wp_X11_push (st : St) (post : Int32 → St → Prop) : Prop := wp_X11_fault st (fun r1 => ((r1 < 0) → (∃ m24 : Nat, wp_X11_push_L24 post (fun t48 => post (gI t48 11) (sI t48 7 0)) m24 (sI (sI st 10 0) 11 0) 0 0)) ∧ ((¬ r1 < 0) → (post (-5) st)))
set_option maxHeartbeats 4000000 in
set_option maxRecDepth 100000 in
theorem c_X11_push (l : Launch) (D : va_G) (cy : Nat → ClassId) (tz : Nat → Nat) (ad : Nat → Nat) (st : St) (post : Int32 → St → Prop) (h : wp_X11_push st post) : CtI l D cy tz yX11_push ws_X11_push rm_X11_push [.ref (ad 0)] (wM cy ad st) (wM cy ad) post := by
  refine CtI.of (own := RX11) (nm := "push") (lv := [(0, .ref (ad 0))]) (plainFor_of_name (by decide)) rfl rfl (Nat.le_of_ble_eq_true rfl) rfl ?_
  intro p e s m args below meth c A Q ls B hP hD hS hl hret
  obtain ⟨hx, hb, hml, hown, hts, hK, hZ, hA, hnm⟩ := B
  have SF : CallFix p m c cX11_push 5 s args wsL_law RX11 := ⟨hx, hb, hml, hown, hts⟩
  unfold wp_X11_push at h
  refine lv_aload_n hx hb dX11_push_0 rfl (lv_at hl 0 rfl) ?_
  refine callVIr (rest := []) SF (c_X11_fault l D cy tz ad st _ h) (cw_RX11_105 hts ⟨Nat.le_of_ble_eq_true rfl, Nat.le_of_ble_eq_true rfl⟩) rfl rfl (va_recv hK hP (ci := 10) (q0 := 0) rfl rfl) hK hZ hA hP hD hS rfl hl.1 rfl (Nat.le_of_ble_eq_true rfl) dX11_push_1 ⟨Nat.zero_le _, Nat.zero_le _⟩ (fun r1 H locs h hP hD hS => ?_)
  refine lv_if_lt (tgt := 10) hx hb dX11_push_4 (by decide) (fun c3 => ?_) (fun c3 => ?_)
  · have h := h.1 c3
    refine lv_aload_n hx hb dX11_push_10 rfl (lv_at hl 0 rfl) ?_
    refine lv_iconst (v := 0) hx hb dX11_push_11 (by decide) ?_
    refine va_put (D := D) (ci := 10) (v := .int 0) (ty := .int) (C := RX11) (T := TX11) (N := 35) hx hb hts inlX11 tyX11 tyX11_ok nmX11 hown hK hP hD hS 0 rfl rfl 10 (by decide) (hts _ w_10_1) (fun _ h9 => h9) rfl (by decide +kernel) rfl rfl (Nat.le_of_ble_eq_true rfl) dX11_push_12 (fun H locs hP hD hS => ?_)
    have hP : va_P D vwCl (wM cy ad (sI st 10 0)) H := hP
    have hD : va_D A (wM cy ad (sI st 10 0)) := hD
    refine lv_aload_n hx hb dX11_push_15 rfl (lv_at hl 0 rfl) ?_
    refine lv_iconst (v := 0) hx hb dX11_push_16 (by decide) ?_
    refine va_put (D := D) (ci := 10) (v := .int 0) (ty := .int) (C := RX11) (T := TX11) (N := 35) hx hb hts inlX11 tyX11 tyX11_ok nmX11 hown hK hP hD hS 0 rfl rfl 11 (by decide) (hts _ w_10_2) (fun _ h9 => h9) rfl (by decide +kernel) rfl rfl (Nat.le_of_ble_eq_true rfl) dX11_push_17 (fun H locs hP hD hS => ?_)
    have hP : va_P D vwCl (wM cy ad (sI (sI st 10 0) 11 0)) H := hP
    have hD : va_D A (wM cy ad (sI (sI st 10 0) 11 0)) := hD
    refine lv_iconst (v := 0) hx hb dX11_push_20 (by decide) ?_
    refine lv_istore_n (lv' := [(1, .int 0), (0, .ref (ad 0))]) hx hb dX11_push_21 rfl hl (by decide) rfl (fun ls hl => ?_)
    refine lv_iconst (v := 0) hx hb dX11_push_22 (by decide) ?_
    refine lv_istore_n (lv' := [(2, .int 0), (1, .int 0), (0, .ref (ad 0))]) hx hb dX11_push_23 rfl hl (by decide) rfl (fun ls hl => ?_)
    have loop24 : ∀ (K : St → Prop), (∀ (t48 : St) (H : Heap) (locs : List Loc) (ls : Array Slot), K t48 → va_P D vwCl (wM cy ad t48) H → va_D A (wM cy ad t48) → va_S A s.heap H locs → lv_has ls 5 [(0, .ref (ad 0))] → W p l e rm_X11_push s m args below meth c H locs 0 0 Q (F0 m 165 ls [])) → ∀ (n : Nat) (t6 : St) (v4 : Int32) (v5 : Int32) (H : Heap) (locs : List Loc) (ls : Array Slot), wp_X11_push_L24 post K n t6 v4 v5 → va_P D vwCl (wM cy ad t6) H → va_D A (wM cy ad t6) → va_S A s.heap H locs → lv_has ls 5 [(0, .ref (ad 0)), (1, .int v4), (2, .int v5)] → W p l e rm_X11_push s m args below meth c H locs 0 0 Q (F0 m 24 ls []) := by
      intro K hE24 n
      induction n with
      | zero => intro t6 v4 v5 H locs ls h; exact h.elim
      | succ n ih24 =>
        intro t6 v4 v5 H locs ls h hP hD hS hl
        rw [wp_X11_push_L24] at h
        refine lv_iload_n hx hb dX11_push_24 rfl (lv_at hl 2 rfl) ?_
        refine lv_aload_n hx hb dX11_push_25 rfl (lv_at hl 0 rfl) ?_
        refine va_get (D := D) (ci := 10) (v := .int (gI t6 7)) (C := RX11) (T := TX11) (N := 35) hx hb hts inlX11 hown hK hP 0 rfl rfl 7 (by decide) (hts _ w_7_18) (fun _ h9 => h9) rfl dX11_push_26 ?_
        refine lv_icmp_ge (tgt := 165) hx hb dX11_push_29 (by decide) (fun c7 => ?_) (fun c7 => ?_)
        · have h := h.1 c7
          exact hE24 _ _ _ _ h hP hD hS (lv_sub hl [0] rfl)
        · have h := h.2 c7
          refine lv_aload_n hx hb dX11_push_32 rfl (lv_at hl 0 rfl) ?_
          refine va_get (D := D) (ci := 10) (v := .ref (ad 5)) (C := RX11) (T := TX11) (N := 35) hx hb hts inlX11 hown hK hP 0 rfl rfl 6 (by decide) (hts _ w_5_10) (fun _ h9 => h9) rfl dX11_push_33 ?_
          refine lv_iload_n hx hb dX11_push_36 rfl (lv_at hl 2 rfl) ?_
          refine va_iald (f := gA t6 6) (n := 40) hx hb hK hP 5 0 rfl rfl h.1 dX11_push_37 ?_
          have h := h.2
          refine lv_topi (fun x8 e9 => ?_)
          have h := h x8 e9
          refine lv_istore_n (lv' := [(3, .int x8), (0, .ref (ad 0)), (1, .int v4), (2, .int v5)]) hx hb dX11_push_38 rfl hl (by decide) rfl (fun ls hl => ?_)
          refine lv_aload_n hx hb dX11_push_39 rfl (lv_at hl 1 rfl) ?_
          refine va_get (D := D) (ci := 10) (v := .ref (ad 5)) (C := RX11) (T := TX11) (N := 35) hx hb hts inlX11 hown hK hP 0 rfl rfl 6 (by decide) (hts _ w_5_10) (fun _ h9 => h9) rfl dX11_push_40 ?_
          refine lv_iload_n hx hb dX11_push_43 rfl (lv_at hl 3 rfl) ?_
          refine lv_iconst (v := 1) hx hb dX11_push_44 (by decide) ?_
          refine lv_iadd hx hb dX11_push_45 ?_
          refine va_iald (f := gA t6 6) (n := 40) hx hb hK hP 5 0 rfl rfl h.1 dX11_push_46 ?_
          have h := h.2
          refine lv_bipush (v := 48) hx hb dX11_push_47 (by decide) ?_
          refine lv_isub hx hb dX11_push_49 ?_
          refine lv_topi (fun x10 e11 => ?_)
          have h := h x10 e11
          refine lv_istore (lv' := [(4, .int x10), (3, .int x8), (0, .ref (ad 0)), (1, .int v4), (2, .int v5)]) hx hb dX11_push_50 hl (by decide) rfl (fun ls hl => ?_)
          obtain ⟨x12, e13⟩ : ∃ z : Int32, z = v5 + 2 := ⟨_, rfl⟩
          have h := h x12 e13
          refine lv_iinc (v := x12) (lv' := [(2, .int x12), (4, .int x10), (3, .int x8), (0, .ref (ad 0)), (1, .int v4)]) hx hb dX11_push_52 hl (k := 4) rfl (by rw [e13]; rfl) (by decide) rfl (fun ls hl => ?_)
          refine lv_aload_n hx hb dX11_push_55 rfl (lv_at hl 3 rfl) ?_
          refine lv_dup hx hb dX11_push_56 rfl ?_
          refine va_get (D := D) (ci := 10) (v := .int (gI t6 11)) (C := RX11) (T := TX11) (N := 35) hx hb hts inlX11 hown hK hP 0 rfl rfl 11 (by decide) (hts _ w_10_2) (fun _ h9 => h9) rfl dX11_push_57 ?_
          refine lv_iconst (v := 1) hx hb dX11_push_60 (by decide) ?_
          refine lv_iadd hx hb dX11_push_61 ?_
          refine lv_topi (fun x14 e15 => ?_)
          have h := h x14 e15
          refine va_put (D := D) (ci := 10) (v := .int x14) (ty := .int) (C := RX11) (T := TX11) (N := 35) hx hb hts inlX11 tyX11 tyX11_ok nmX11 hown hK hP hD hS 0 rfl rfl 11 (by decide) (hts _ w_10_2) (fun _ h9 => h9) rfl (by decide +kernel) rfl rfl (Nat.le_of_ble_eq_true rfl) dX11_push_62 (fun H locs hP hD hS => ?_)
          have hP : va_P D vwCl (wM cy ad (sI t6 11 x14)) H := hP
          have hD : va_D A (wM cy ad (sI t6 11 x14)) := hD
          refine lv_iload_n hx hb dX11_push_65 rfl (lv_at hl 2 rfl) ?_
          refine lv_bipush (v := 46) hx hb dX11_push_66 (by decide) ?_
          refine lv_icmp_ne (tgt := 79) hx hb dX11_push_68 (by decide) (fun c16 => ?_) (fun c16 => ?_)
          · have h := h.1 c16
            refine lv_iload_n hx hb dX11_push_79 rfl (lv_at hl 0 rfl) ?_
            refine lv_aload_n hx hb dX11_push_80 rfl (lv_at hl 3 rfl) ?_
            refine va_get (D := D) (ci := 10) (v := .int (gI t6 7)) (C := RX11) (T := TX11) (N := 35) hx hb hts inlX11 hown hK hP 0 rfl rfl 7 (by decide) (hts _ w_7_18) (fun _ h9 => h9) rfl dX11_push_81 ?_
            refine lv_icmp_ge (tgt := 119) hx hb dX11_push_84 (by decide) (fun c17 => ?_) (fun c17 => ?_)
            · have h := h.1 c17
              refine lv_aload_n hx hb dX11_push_119 rfl (lv_at hl 3 rfl) ?_
              refine va_get (D := D) (ci := 10) (v := .ref (ad 6)) (C := RX11) (T := TX11) (N := 35) hx hb hts inlX11 hown hK hP 0 rfl rfl 8 (by decide) (hts _ w_5_11) (fun _ h9 => h9) rfl dX11_push_120 ?_
              refine lv_aload_n hx hb dX11_push_123 rfl (lv_at hl 3 rfl) ?_
              refine va_get (D := D) (ci := 10) (v := .int (gI t6 10)) (C := RX11) (T := TX11) (N := 35) hx hb hts inlX11 hown hK hP 0 rfl rfl 10 (by decide) (hts _ w_10_1) (fun _ h9 => h9) rfl dX11_push_124 ?_
              refine lv_iload_n hx hb dX11_push_127 rfl (lv_at hl 4 rfl) ?_
              refine va_iast (f := gA t6 8) (n := 20) hx hb hK hP hD hS 6 0 rfl rfl h.1 dX11_push_128 (fun H locs hP hD hS => ?_)
              have h := h.2
              have hP : va_P D vwCl (wM cy ad (sA (sI t6 11 x14) 8 (upd (gA t6 8) (gI t6 10).toNatClampNeg v4))) H := hP
              have hD : va_D A (wM cy ad (sA (sI t6 11 x14) 8 (upd (gA t6 8) (gI t6 10).toNatClampNeg v4))) := hD
              refine lv_aload_n hx hb dX11_push_129 rfl (lv_at hl 3 rfl) ?_
              refine va_get (D := D) (ci := 10) (v := .ref (ad 7)) (C := RX11) (T := TX11) (N := 35) hx hb hts inlX11 hown hK hP 0 rfl rfl 9 (by decide) (hts _ w_5_12) (fun _ h9 => h9) rfl dX11_push_130 ?_
              refine lv_aload_n hx hb dX11_push_133 rfl (lv_at hl 3 rfl) ?_
              refine va_get (D := D) (ci := 10) (v := .int (gI t6 10)) (C := RX11) (T := TX11) (N := 35) hx hb hts inlX11 hown hK hP 0 rfl rfl 10 (by decide) (hts _ w_10_1) (fun _ h9 => h9) rfl dX11_push_134 ?_
              refine lv_iload_n hx hb dX11_push_137 rfl (lv_at hl 2 rfl) ?_
              refine lv_bipush (v := 43) hx hb dX11_push_138 (by decide) ?_
              refine lv_icmp_ne (tgt := 148) hx hb dX11_push_140 (by decide) (fun c18 => ?_) (fun c18 => ?_)
              · have h := h.1 c18
                refine lv_iload hx hb dX11_push_148 (lv_at hl 1 rfl) ?_
                refine lv_ineg hx hb dX11_push_150 ?_
                refine lv_topi (fun x19 e20 => ?_)
                have h := h x19 e20
                refine va_iast (f := gA t6 9) (n := 20) hx hb hK hP hD hS 7 0 rfl rfl h.1 dX11_push_151 (fun H locs hP hD hS => ?_)
                have h := h.2
                have hP : va_P D vwCl (wM cy ad (sA (sA (sI t6 11 x14) 8 (upd (gA t6 8) (gI t6 10).toNatClampNeg v4)) 9 (upd (gA t6 9) (gI t6 10).toNatClampNeg x19))) H := hP
                have hD : va_D A (wM cy ad (sA (sA (sI t6 11 x14) 8 (upd (gA t6 8) (gI t6 10).toNatClampNeg v4)) 9 (upd (gA t6 9) (gI t6 10).toNatClampNeg x19))) := hD
                refine lv_aload_n hx hb dX11_push_152 rfl (lv_at hl 3 rfl) ?_
                refine lv_dup hx hb dX11_push_153 rfl ?_
                refine va_get (D := D) (ci := 10) (v := .int (gI t6 10)) (C := RX11) (T := TX11) (N := 35) hx hb hts inlX11 hown hK hP 0 rfl rfl 10 (by decide) (hts _ w_10_1) (fun _ h9 => h9) rfl dX11_push_154 ?_
                refine lv_iconst (v := 1) hx hb dX11_push_157 (by decide) ?_
                refine lv_iadd hx hb dX11_push_158 ?_
                refine lv_topi (fun x21 e22 => ?_)
                have h := h x21 e22
                refine va_put (D := D) (ci := 10) (v := .int x21) (ty := .int) (C := RX11) (T := TX11) (N := 35) hx hb hts inlX11 tyX11 tyX11_ok nmX11 hown hK hP hD hS 0 rfl rfl 10 (by decide) (hts _ w_10_1) (fun _ h9 => h9) rfl (by decide +kernel) rfl rfl (Nat.le_of_ble_eq_true rfl) dX11_push_159 (fun H locs hP hD hS => ?_)
                have hP : va_P D vwCl (wM cy ad (sI (sA (sA (sI t6 11 x14) 8 (upd (gA t6 8) (gI t6 10).toNatClampNeg v4)) 9 (upd (gA t6 9) (gI t6 10).toNatClampNeg x19)) 10 x21)) H := hP
                have hD : va_D A (wM cy ad (sI (sA (sA (sI t6 11 x14) 8 (upd (gA t6 8) (gI t6 10).toNatClampNeg v4)) 9 (upd (gA t6 9) (gI t6 10).toNatClampNeg x19)) 10 x21)) := hD
                refine lv_goto (tgt := 24) hx hb dX11_push_162 (by decide) ?_
                exact ih24 _ _ _ _ _ _ h hP hD hS (lv_sub hl [3, 4, 0] rfl)
              · have h := h.2 c18
                refine lv_iload hx hb dX11_push_143 (lv_at hl 1 rfl) ?_
                refine lv_goto (tgt := 151) hx hb dX11_push_145 (by decide) ?_
                refine va_iast (f := gA t6 9) (n := 20) hx hb hK hP hD hS 7 0 rfl rfl h.1 dX11_push_151 (fun H locs hP hD hS => ?_)
                have h := h.2
                have hP : va_P D vwCl (wM cy ad (sA (sA (sI t6 11 x14) 8 (upd (gA t6 8) (gI t6 10).toNatClampNeg v4)) 9 (upd (gA t6 9) (gI t6 10).toNatClampNeg x10))) H := hP
                have hD : va_D A (wM cy ad (sA (sA (sI t6 11 x14) 8 (upd (gA t6 8) (gI t6 10).toNatClampNeg v4)) 9 (upd (gA t6 9) (gI t6 10).toNatClampNeg x10))) := hD
                refine lv_aload_n hx hb dX11_push_152 rfl (lv_at hl 3 rfl) ?_
                refine lv_dup hx hb dX11_push_153 rfl ?_
                refine va_get (D := D) (ci := 10) (v := .int (gI t6 10)) (C := RX11) (T := TX11) (N := 35) hx hb hts inlX11 hown hK hP 0 rfl rfl 10 (by decide) (hts _ w_10_1) (fun _ h9 => h9) rfl dX11_push_154 ?_
                refine lv_iconst (v := 1) hx hb dX11_push_157 (by decide) ?_
                refine lv_iadd hx hb dX11_push_158 ?_
                refine lv_topi (fun x23 e24 => ?_)
                have h := h x23 e24
                refine va_put (D := D) (ci := 10) (v := .int x23) (ty := .int) (C := RX11) (T := TX11) (N := 35) hx hb hts inlX11 tyX11 tyX11_ok nmX11 hown hK hP hD hS 0 rfl rfl 10 (by decide) (hts _ w_10_1) (fun _ h9 => h9) rfl (by decide +kernel) rfl rfl (Nat.le_of_ble_eq_true rfl) dX11_push_159 (fun H locs hP hD hS => ?_)
                have hP : va_P D vwCl (wM cy ad (sI (sA (sA (sI t6 11 x14) 8 (upd (gA t6 8) (gI t6 10).toNatClampNeg v4)) 9 (upd (gA t6 9) (gI t6 10).toNatClampNeg x10)) 10 x23)) H := hP
                have hD : va_D A (wM cy ad (sI (sA (sA (sI t6 11 x14) 8 (upd (gA t6 8) (gI t6 10).toNatClampNeg v4)) 9 (upd (gA t6 9) (gI t6 10).toNatClampNeg x10)) 10 x23)) := hD
                refine lv_goto (tgt := 24) hx hb dX11_push_162 (by decide) ?_
                exact ih24 _ _ _ _ _ _ h hP hD hS (lv_sub hl [3, 4, 0] rfl)
            · have h := h.2 c17
              refine lv_aload_n hx hb dX11_push_87 rfl (lv_at hl 3 rfl) ?_
              refine va_get (D := D) (ci := 10) (v := .ref (ad 5)) (C := RX11) (T := TX11) (N := 35) hx hb hts inlX11 hown hK hP 0 rfl rfl 6 (by decide) (hts _ w_5_10) (fun _ h9 => h9) rfl dX11_push_88 ?_
              refine lv_iload_n hx hb dX11_push_91 rfl (lv_at hl 0 rfl) ?_
              refine va_iald (f := gA t6 6) (n := 40) hx hb hK hP 5 0 rfl rfl h.1 dX11_push_92 ?_
              have h := h.2
              refine callSIr (rest := []) SF (c_X11_isDigit l D cy tz _ (gA t6 6 x12.toNatClampNeg) _ h) (cw_RX11_101 hts ⟨Nat.le_of_ble_eq_true rfl, Nat.le_of_ble_eq_true rfl⟩) rfl rfl hK hZ hA hP hD hS rfl hl.1 rfl (Nat.le_of_ble_eq_true rfl) dX11_push_93 ⟨Nat.zero_le _, Nat.zero_le _⟩ (fun r25 H locs h hP hD hS => ?_)
              refine lv_if_eq (tgt := 119) hx hb dX11_push_96 (by decide) (fun c27 => ?_) (fun c27 => ?_)
              · have h := h.1 c27
                refine lv_aload_n hx hb dX11_push_119 rfl (lv_at hl 3 rfl) ?_
                refine va_get (D := D) (ci := 10) (v := .ref (ad 6)) (C := RX11) (T := TX11) (N := 35) hx hb hts inlX11 hown hK hP 0 rfl rfl 8 (by decide) (hts _ w_5_11) (fun _ h9 => h9) rfl dX11_push_120 ?_
                refine lv_aload_n hx hb dX11_push_123 rfl (lv_at hl 3 rfl) ?_
                refine va_get (D := D) (ci := 10) (v := .int (gI t6 10)) (C := RX11) (T := TX11) (N := 35) hx hb hts inlX11 hown hK hP 0 rfl rfl 10 (by decide) (hts _ w_10_1) (fun _ h9 => h9) rfl dX11_push_124 ?_
                refine lv_iload_n hx hb dX11_push_127 rfl (lv_at hl 4 rfl) ?_
                refine va_iast (f := gA t6 8) (n := 20) hx hb hK hP hD hS 6 0 rfl rfl h.1 dX11_push_128 (fun H locs hP hD hS => ?_)
                have h := h.2
                have hP : va_P D vwCl (wM cy ad (sA (sI t6 11 x14) 8 (upd (gA t6 8) (gI t6 10).toNatClampNeg v4))) H := hP
                have hD : va_D A (wM cy ad (sA (sI t6 11 x14) 8 (upd (gA t6 8) (gI t6 10).toNatClampNeg v4))) := hD
                refine lv_aload_n hx hb dX11_push_129 rfl (lv_at hl 3 rfl) ?_
                refine va_get (D := D) (ci := 10) (v := .ref (ad 7)) (C := RX11) (T := TX11) (N := 35) hx hb hts inlX11 hown hK hP 0 rfl rfl 9 (by decide) (hts _ w_5_12) (fun _ h9 => h9) rfl dX11_push_130 ?_
                refine lv_aload_n hx hb dX11_push_133 rfl (lv_at hl 3 rfl) ?_
                refine va_get (D := D) (ci := 10) (v := .int (gI t6 10)) (C := RX11) (T := TX11) (N := 35) hx hb hts inlX11 hown hK hP 0 rfl rfl 10 (by decide) (hts _ w_10_1) (fun _ h9 => h9) rfl dX11_push_134 ?_
                refine lv_iload_n hx hb dX11_push_137 rfl (lv_at hl 2 rfl) ?_
                refine lv_bipush (v := 43) hx hb dX11_push_138 (by decide) ?_
                refine lv_icmp_ne (tgt := 148) hx hb dX11_push_140 (by decide) (fun c28 => ?_) (fun c28 => ?_)
                · have h := h.1 c28
                  refine lv_iload hx hb dX11_push_148 (lv_at hl 1 rfl) ?_
                  refine lv_ineg hx hb dX11_push_150 ?_
                  refine lv_topi (fun x29 e30 => ?_)
                  have h := h x29 e30
                  refine va_iast (f := gA t6 9) (n := 20) hx hb hK hP hD hS 7 0 rfl rfl h.1 dX11_push_151 (fun H locs hP hD hS => ?_)
                  have h := h.2
                  have hP : va_P D vwCl (wM cy ad (sA (sA (sI t6 11 x14) 8 (upd (gA t6 8) (gI t6 10).toNatClampNeg v4)) 9 (upd (gA t6 9) (gI t6 10).toNatClampNeg x29))) H := hP
                  have hD : va_D A (wM cy ad (sA (sA (sI t6 11 x14) 8 (upd (gA t6 8) (gI t6 10).toNatClampNeg v4)) 9 (upd (gA t6 9) (gI t6 10).toNatClampNeg x29))) := hD
                  refine lv_aload_n hx hb dX11_push_152 rfl (lv_at hl 3 rfl) ?_
                  refine lv_dup hx hb dX11_push_153 rfl ?_
                  refine va_get (D := D) (ci := 10) (v := .int (gI t6 10)) (C := RX11) (T := TX11) (N := 35) hx hb hts inlX11 hown hK hP 0 rfl rfl 10 (by decide) (hts _ w_10_1) (fun _ h9 => h9) rfl dX11_push_154 ?_
                  refine lv_iconst (v := 1) hx hb dX11_push_157 (by decide) ?_
                  refine lv_iadd hx hb dX11_push_158 ?_
                  refine lv_topi (fun x31 e32 => ?_)
                  have h := h x31 e32
                  refine va_put (D := D) (ci := 10) (v := .int x31) (ty := .int) (C := RX11) (T := TX11) (N := 35) hx hb hts inlX11 tyX11 tyX11_ok nmX11 hown hK hP hD hS 0 rfl rfl 10 (by decide) (hts _ w_10_1) (fun _ h9 => h9) rfl (by decide +kernel) rfl rfl (Nat.le_of_ble_eq_true rfl) dX11_push_159 (fun H locs hP hD hS => ?_)
                  have hP : va_P D vwCl (wM cy ad (sI (sA (sA (sI t6 11 x14) 8 (upd (gA t6 8) (gI t6 10).toNatClampNeg v4)) 9 (upd (gA t6 9) (gI t6 10).toNatClampNeg x29)) 10 x31)) H := hP
                  have hD : va_D A (wM cy ad (sI (sA (sA (sI t6 11 x14) 8 (upd (gA t6 8) (gI t6 10).toNatClampNeg v4)) 9 (upd (gA t6 9) (gI t6 10).toNatClampNeg x29)) 10 x31)) := hD
                  refine lv_goto (tgt := 24) hx hb dX11_push_162 (by decide) ?_
                  exact ih24 _ _ _ _ _ _ h hP hD hS (lv_sub hl [3, 4, 0] rfl)
                · have h := h.2 c28
                  refine lv_iload hx hb dX11_push_143 (lv_at hl 1 rfl) ?_
                  refine lv_goto (tgt := 151) hx hb dX11_push_145 (by decide) ?_
                  refine va_iast (f := gA t6 9) (n := 20) hx hb hK hP hD hS 7 0 rfl rfl h.1 dX11_push_151 (fun H locs hP hD hS => ?_)
                  have h := h.2
                  have hP : va_P D vwCl (wM cy ad (sA (sA (sI t6 11 x14) 8 (upd (gA t6 8) (gI t6 10).toNatClampNeg v4)) 9 (upd (gA t6 9) (gI t6 10).toNatClampNeg x10))) H := hP
                  have hD : va_D A (wM cy ad (sA (sA (sI t6 11 x14) 8 (upd (gA t6 8) (gI t6 10).toNatClampNeg v4)) 9 (upd (gA t6 9) (gI t6 10).toNatClampNeg x10))) := hD
                  refine lv_aload_n hx hb dX11_push_152 rfl (lv_at hl 3 rfl) ?_
                  refine lv_dup hx hb dX11_push_153 rfl ?_
                  refine va_get (D := D) (ci := 10) (v := .int (gI t6 10)) (C := RX11) (T := TX11) (N := 35) hx hb hts inlX11 hown hK hP 0 rfl rfl 10 (by decide) (hts _ w_10_1) (fun _ h9 => h9) rfl dX11_push_154 ?_
                  refine lv_iconst (v := 1) hx hb dX11_push_157 (by decide) ?_
                  refine lv_iadd hx hb dX11_push_158 ?_
                  refine lv_topi (fun x33 e34 => ?_)
                  have h := h x33 e34
                  refine va_put (D := D) (ci := 10) (v := .int x33) (ty := .int) (C := RX11) (T := TX11) (N := 35) hx hb hts inlX11 tyX11 tyX11_ok nmX11 hown hK hP hD hS 0 rfl rfl 10 (by decide) (hts _ w_10_1) (fun _ h9 => h9) rfl (by decide +kernel) rfl rfl (Nat.le_of_ble_eq_true rfl) dX11_push_159 (fun H locs hP hD hS => ?_)
                  have hP : va_P D vwCl (wM cy ad (sI (sA (sA (sI t6 11 x14) 8 (upd (gA t6 8) (gI t6 10).toNatClampNeg v4)) 9 (upd (gA t6 9) (gI t6 10).toNatClampNeg x10)) 10 x33)) H := hP
                  have hD : va_D A (wM cy ad (sI (sA (sA (sI t6 11 x14) 8 (upd (gA t6 8) (gI t6 10).toNatClampNeg v4)) 9 (upd (gA t6 9) (gI t6 10).toNatClampNeg x10)) 10 x33)) := hD
                  refine lv_goto (tgt := 24) hx hb dX11_push_162 (by decide) ?_
                  exact ih24 _ _ _ _ _ _ h hP hD hS (lv_sub hl [3, 4, 0] rfl)
              · have h := h.2 c27
                refine lv_bipush (v := 10) hx hb dX11_push_99 (by decide) ?_
                refine lv_iload hx hb dX11_push_101 (lv_at hl 1 rfl) ?_
                refine lv_imul hx hb dX11_push_103 ?_
                refine lv_aload_n hx hb dX11_push_104 rfl (lv_at hl 3 rfl) ?_
                refine va_get (D := D) (ci := 10) (v := .ref (ad 5)) (C := RX11) (T := TX11) (N := 35) hx hb hts inlX11 hown hK hP 0 rfl rfl 6 (by decide) (hts _ w_5_10) (fun _ h9 => h9) rfl dX11_push_105 ?_
                refine lv_iload_n hx hb dX11_push_108 rfl (lv_at hl 0 rfl) ?_
                refine va_iald (f := gA t6 6) (n := 40) hx hb hK hP 5 0 rfl rfl h.1 dX11_push_109 ?_
                have h := h.2
                refine lv_iadd hx hb dX11_push_110 ?_
                refine lv_bipush (v := 48) hx hb dX11_push_111 (by decide) ?_
                refine lv_isub hx hb dX11_push_113 ?_
                refine lv_topi (fun x35 e36 => ?_)
                have h := h x35 e36
                refine lv_istore (lv' := [(4, .int x35), (2, .int x12), (3, .int x8), (0, .ref (ad 0)), (1, .int v4)]) hx hb dX11_push_114 hl (by decide) rfl (fun ls hl => ?_)
                obtain ⟨x37, e38⟩ : ∃ z : Int32, z = x12 + 1 := ⟨_, rfl⟩
                have h := h x37 e38
                refine lv_iinc (v := x37) (lv' := [(2, .int x37), (4, .int x35), (3, .int x8), (0, .ref (ad 0)), (1, .int v4)]) hx hb dX11_push_116 hl (k := 1) rfl (by rw [e38]; rfl) (by decide) rfl (fun ls hl => ?_)
                refine lv_aload_n hx hb dX11_push_119 rfl (lv_at hl 3 rfl) ?_
                refine va_get (D := D) (ci := 10) (v := .ref (ad 6)) (C := RX11) (T := TX11) (N := 35) hx hb hts inlX11 hown hK hP 0 rfl rfl 8 (by decide) (hts _ w_5_11) (fun _ h9 => h9) rfl dX11_push_120 ?_
                refine lv_aload_n hx hb dX11_push_123 rfl (lv_at hl 3 rfl) ?_
                refine va_get (D := D) (ci := 10) (v := .int (gI t6 10)) (C := RX11) (T := TX11) (N := 35) hx hb hts inlX11 hown hK hP 0 rfl rfl 10 (by decide) (hts _ w_10_1) (fun _ h9 => h9) rfl dX11_push_124 ?_
                refine lv_iload_n hx hb dX11_push_127 rfl (lv_at hl 4 rfl) ?_
                refine va_iast (f := gA t6 8) (n := 20) hx hb hK hP hD hS 6 0 rfl rfl h.1 dX11_push_128 (fun H locs hP hD hS => ?_)
                have h := h.2
                have hP : va_P D vwCl (wM cy ad (sA (sI t6 11 x14) 8 (upd (gA t6 8) (gI t6 10).toNatClampNeg v4))) H := hP
                have hD : va_D A (wM cy ad (sA (sI t6 11 x14) 8 (upd (gA t6 8) (gI t6 10).toNatClampNeg v4))) := hD
                refine lv_aload_n hx hb dX11_push_129 rfl (lv_at hl 3 rfl) ?_
                refine va_get (D := D) (ci := 10) (v := .ref (ad 7)) (C := RX11) (T := TX11) (N := 35) hx hb hts inlX11 hown hK hP 0 rfl rfl 9 (by decide) (hts _ w_5_12) (fun _ h9 => h9) rfl dX11_push_130 ?_
                refine lv_aload_n hx hb dX11_push_133 rfl (lv_at hl 3 rfl) ?_
                refine va_get (D := D) (ci := 10) (v := .int (gI t6 10)) (C := RX11) (T := TX11) (N := 35) hx hb hts inlX11 hown hK hP 0 rfl rfl 10 (by decide) (hts _ w_10_1) (fun _ h9 => h9) rfl dX11_push_134 ?_
                refine lv_iload_n hx hb dX11_push_137 rfl (lv_at hl 2 rfl) ?_
                refine lv_bipush (v := 43) hx hb dX11_push_138 (by decide) ?_
                refine lv_icmp_ne (tgt := 148) hx hb dX11_push_140 (by decide) (fun c39 => ?_) (fun c39 => ?_)
                · have h := h.1 c39
                  refine lv_iload hx hb dX11_push_148 (lv_at hl 1 rfl) ?_
                  refine lv_ineg hx hb dX11_push_150 ?_
                  refine lv_topi (fun x40 e41 => ?_)
                  have h := h x40 e41
                  refine va_iast (f := gA t6 9) (n := 20) hx hb hK hP hD hS 7 0 rfl rfl h.1 dX11_push_151 (fun H locs hP hD hS => ?_)
                  have h := h.2
                  have hP : va_P D vwCl (wM cy ad (sA (sA (sI t6 11 x14) 8 (upd (gA t6 8) (gI t6 10).toNatClampNeg v4)) 9 (upd (gA t6 9) (gI t6 10).toNatClampNeg x40))) H := hP
                  have hD : va_D A (wM cy ad (sA (sA (sI t6 11 x14) 8 (upd (gA t6 8) (gI t6 10).toNatClampNeg v4)) 9 (upd (gA t6 9) (gI t6 10).toNatClampNeg x40))) := hD
                  refine lv_aload_n hx hb dX11_push_152 rfl (lv_at hl 3 rfl) ?_
                  refine lv_dup hx hb dX11_push_153 rfl ?_
                  refine va_get (D := D) (ci := 10) (v := .int (gI t6 10)) (C := RX11) (T := TX11) (N := 35) hx hb hts inlX11 hown hK hP 0 rfl rfl 10 (by decide) (hts _ w_10_1) (fun _ h9 => h9) rfl dX11_push_154 ?_
                  refine lv_iconst (v := 1) hx hb dX11_push_157 (by decide) ?_
                  refine lv_iadd hx hb dX11_push_158 ?_
                  refine lv_topi (fun x42 e43 => ?_)
                  have h := h x42 e43
                  refine va_put (D := D) (ci := 10) (v := .int x42) (ty := .int) (C := RX11) (T := TX11) (N := 35) hx hb hts inlX11 tyX11 tyX11_ok nmX11 hown hK hP hD hS 0 rfl rfl 10 (by decide) (hts _ w_10_1) (fun _ h9 => h9) rfl (by decide +kernel) rfl rfl (Nat.le_of_ble_eq_true rfl) dX11_push_159 (fun H locs hP hD hS => ?_)
                  have hP : va_P D vwCl (wM cy ad (sI (sA (sA (sI t6 11 x14) 8 (upd (gA t6 8) (gI t6 10).toNatClampNeg v4)) 9 (upd (gA t6 9) (gI t6 10).toNatClampNeg x40)) 10 x42)) H := hP
                  have hD : va_D A (wM cy ad (sI (sA (sA (sI t6 11 x14) 8 (upd (gA t6 8) (gI t6 10).toNatClampNeg v4)) 9 (upd (gA t6 9) (gI t6 10).toNatClampNeg x40)) 10 x42)) := hD
                  refine lv_goto (tgt := 24) hx hb dX11_push_162 (by decide) ?_
                  exact ih24 _ _ _ _ _ _ h hP hD hS (lv_sub hl [3, 4, 0] rfl)
                · have h := h.2 c39
                  refine lv_iload hx hb dX11_push_143 (lv_at hl 1 rfl) ?_
                  refine lv_goto (tgt := 151) hx hb dX11_push_145 (by decide) ?_
                  refine va_iast (f := gA t6 9) (n := 20) hx hb hK hP hD hS 7 0 rfl rfl h.1 dX11_push_151 (fun H locs hP hD hS => ?_)
                  have h := h.2
                  have hP : va_P D vwCl (wM cy ad (sA (sA (sI t6 11 x14) 8 (upd (gA t6 8) (gI t6 10).toNatClampNeg v4)) 9 (upd (gA t6 9) (gI t6 10).toNatClampNeg x35))) H := hP
                  have hD : va_D A (wM cy ad (sA (sA (sI t6 11 x14) 8 (upd (gA t6 8) (gI t6 10).toNatClampNeg v4)) 9 (upd (gA t6 9) (gI t6 10).toNatClampNeg x35))) := hD
                  refine lv_aload_n hx hb dX11_push_152 rfl (lv_at hl 3 rfl) ?_
                  refine lv_dup hx hb dX11_push_153 rfl ?_
                  refine va_get (D := D) (ci := 10) (v := .int (gI t6 10)) (C := RX11) (T := TX11) (N := 35) hx hb hts inlX11 hown hK hP 0 rfl rfl 10 (by decide) (hts _ w_10_1) (fun _ h9 => h9) rfl dX11_push_154 ?_
                  refine lv_iconst (v := 1) hx hb dX11_push_157 (by decide) ?_
                  refine lv_iadd hx hb dX11_push_158 ?_
                  refine lv_topi (fun x44 e45 => ?_)
                  have h := h x44 e45
                  refine va_put (D := D) (ci := 10) (v := .int x44) (ty := .int) (C := RX11) (T := TX11) (N := 35) hx hb hts inlX11 tyX11 tyX11_ok nmX11 hown hK hP hD hS 0 rfl rfl 10 (by decide) (hts _ w_10_1) (fun _ h9 => h9) rfl (by decide +kernel) rfl rfl (Nat.le_of_ble_eq_true rfl) dX11_push_159 (fun H locs hP hD hS => ?_)
                  have hP : va_P D vwCl (wM cy ad (sI (sA (sA (sI t6 11 x14) 8 (upd (gA t6 8) (gI t6 10).toNatClampNeg v4)) 9 (upd (gA t6 9) (gI t6 10).toNatClampNeg x35)) 10 x44)) H := hP
                  have hD : va_D A (wM cy ad (sI (sA (sA (sI t6 11 x14) 8 (upd (gA t6 8) (gI t6 10).toNatClampNeg v4)) 9 (upd (gA t6 9) (gI t6 10).toNatClampNeg x35)) 10 x44)) := hD
                  refine lv_goto (tgt := 24) hx hb dX11_push_162 (by decide) ?_
                  exact ih24 _ _ _ _ _ _ h hP hD hS (lv_sub hl [3, 4, 0] rfl)
          · have h := h.2 c16
            refine lv_iload_n hx hb dX11_push_71 rfl (lv_at hl 4 rfl) ?_
            refine lv_iload hx hb dX11_push_72 (lv_at hl 1 rfl) ?_
            refine lv_iadd hx hb dX11_push_74 ?_
            refine lv_topi (fun x46 e47 => ?_)
            have h := h x46 e47
            refine lv_istore_n (lv' := [(1, .int x46), (2, .int x12), (4, .int x10), (3, .int x8), (0, .ref (ad 0))]) hx hb dX11_push_75 rfl hl (by decide) rfl (fun ls hl => ?_)
            refine lv_goto (tgt := 162) hx hb dX11_push_76 (by decide) ?_
            refine lv_goto (tgt := 24) hx hb dX11_push_162 (by decide) ?_
            exact ih24 _ _ _ _ _ _ h hP hD hS (lv_sub hl [4, 0, 1] rfl)
    obtain ⟨n, h⟩ := h
    refine loop24 _ ?_ n _ _ _ _ _ _ h hP hD hS (lv_sub hl [2, 1, 0] rfl)
    intro t48 H locs ls h hP hD hS hl
    refine lv_aload_n hx hb dX11_push_165 rfl (lv_at hl 0 rfl) ?_
    refine lv_iconst (v := 0) hx hb dX11_push_166 (by decide) ?_
    refine va_put (D := D) (ci := 10) (v := .int 0) (ty := .int) (C := RX11) (T := TX11) (N := 35) hx hb hts inlX11 tyX11 tyX11_ok nmX11 hown hK hP hD hS 0 rfl rfl 7 (by decide) (hts _ w_7_18) (fun _ h9 => h9) rfl (by decide +kernel) rfl rfl (Nat.le_of_ble_eq_true rfl) dX11_push_167 (fun H locs hP hD hS => ?_)
    have hP : va_P D vwCl (wM cy ad (sI t48 7 0)) H := hP
    have hD : va_D A (wM cy ad (sI t48 7 0)) := hD
    refine lv_aload_n hx hb dX11_push_170 rfl (lv_at hl 0 rfl) ?_
    refine va_get (D := D) (ci := 10) (v := .int (gI t48 11)) (C := RX11) (T := TX11) (N := 35) hx hb hts inlX11 hown hK hP 0 rfl rfl 11 (by decide) (hts _ w_10_2) (fun _ h9 => h9) rfl dX11_push_171 ?_
    exact hret _ _ _ _ _ _ rfl h hP hD hS dX11_push_174
  · have h := h.2 c3
    refine lv_bipush (v := (-5)) hx hb dX11_push_7 (by decide) ?_
    exact hret _ _ _ _ _ _ rfl h hP hD hS dX11_push_9
-- X11_held
def rm_X11_held : Room := { frames := 0, cells := 0, slots := 0, locals := 0 }
abbrev ws_X11_held : List Cond := .code yX11_held cX11_held 1 (some .int) :: wsL_law
def wp_X11_held (a1 : Int32) (post : Int32 → Prop) : Prop := (((-99) ≤ a1) → (((a1 ≤ 99) → (post a1)) ∧ ((¬ a1 ≤ 99) → (post 99)))) ∧ ((¬ (-99) ≤ a1) → (post (-99)))
set_option maxHeartbeats 4000000 in
set_option maxRecDepth 100000 in
theorem c_X11_held (l : Launch) (D : va_G) (cy : Nat → ClassId) (tz : Nat → Nat) (w : va_W) (a1 : Int32) (post : Int32 → Prop) (h : wp_X11_held a1 post) : CtI l D cy tz yX11_held ws_X11_held rm_X11_held [.int a1] w (fun _ : Unit => w) (fun r _ => post r) := by
  refine CtI.of (own := RX11) (nm := "held") (lv := [(0, .int a1)]) (plainFor_of_name (by decide)) rfl rfl (Nat.le_of_ble_eq_true rfl) rfl ?_
  intro p e s m args below meth c A Q ls B hP hD hS hl hret
  obtain ⟨hx, hb, hml, hown, hts, hK, hZ, hA, hnm⟩ := B
  have SF : CallFix p m c cX11_held 1 s args wsL_law RX11 := ⟨hx, hb, hml, hown, hts⟩
  unfold wp_X11_held at h
  refine lv_iload_n hx hb dX11_held_0 rfl (lv_at hl 0 rfl) ?_
  refine lv_bipush (v := (-99)) hx hb dX11_held_1 (by decide) ?_
  refine lv_icmp_ge (tgt := 11) hx hb dX11_held_3 (by decide) (fun c1 => ?_) (fun c1 => ?_)
  · have h := h.1 c1
    refine lv_iload_n hx hb dX11_held_11 rfl (lv_at hl 0 rfl) ?_
    refine lv_bipush (v := 99) hx hb dX11_held_12 (by decide) ?_
    refine lv_icmp_le (tgt := 22) hx hb dX11_held_14 (by decide) (fun c2 => ?_) (fun c2 => ?_)
    · have h := h.1 c2
      refine lv_iload_n hx hb dX11_held_22 rfl (lv_at hl 0 rfl) ?_
      exact hret _ () _ _ _ _ rfl h hP hD hS dX11_held_23
    · have h := h.2 c2
      refine lv_bipush (v := 99) hx hb dX11_held_17 (by decide) ?_
      refine lv_goto (tgt := 23) hx hb dX11_held_19 (by decide) ?_
      exact hret _ () _ _ _ _ rfl h hP hD hS dX11_held_23
  · have h := h.2 c1
    refine lv_bipush (v := (-99)) hx hb dX11_held_6 (by decide) ?_
    refine lv_goto (tgt := 23) hx hb dX11_held_8 (by decide) ?_
    exact hret _ () _ _ _ _ rfl h hP hD hS dX11_held_23
-- X11_layTurns
def rm_X11_layTurns : Room := { frames := 1, cells := 0, slots := 0, locals := 20 }
abbrev ws_X11_layTurns : List Cond := .code yX11_layTurns cX11_layTurns 5 none :: wsL_law
theorem cw_RX11_115 {R : Room} {s : State} {args : Array Value} (hts : ∀ w ∈ wsL_law, w.before args s = true) (hR : rm_X11_held.frames + 1 ≤ R.frames ∧ 8 + (1 + 11) + rm_X11_held.locals ≤ R.locals) : CallB R s args RX11 115 yX11_held cX11_held 1 (some .int) ws_X11_held rm_X11_held rm_X11_held.cells rm_X11_held.slots 1 ∧ (Cond.static yX11_held).before args s = true := va_cwS 1 hts (gdS w_12_13 w_12_14 w_1_5 w_12_15) rfl rfl rfl (by decide +kernel) hR
def wp_X11_layTurns_L36 (post : St → Prop) (K : Int32 → Prop) (v3 : Int32) (t4 : St) : Nat → Int32 → Int32 → Prop
  | 0, _, _ => False
  | n36 + 1, v8, v9 => ((gI t4 10 ≤ v9) → (K v8)) ∧ ((¬ gI t4 10 ≤ v9) → (vp_in v9 20 ∧ (((¬ (gA t4 8 v9.toNatClampNeg) = v3) → (∀ x13 : Int32, x13 = v9 + 1 → (wp_X11_layTurns_L36 post K v3 t4 n36 v8 x13))) ∧ (((gA t4 8 v9.toNatClampNeg) = v3) → (vp_in v9 20 ∧ (wp_X11_held (v8 + (gA t4 9 v9.toNatClampNeg)) (fun r15 => ∀ x17 : Int32, x17 = v9 + 1 → (wp_X11_layTurns_L36 post K v3 t4 n36 r15 x17))))))))
def wp_X11_layTurns_L21 (post : St → Prop) (K : St → Prop) : Nat → St → Int32 → Prop
  | 0, _, _ => False
  | n21 + 1, t4, v3 => ((60 < v3) → (K t4)) ∧ ((¬ 60 < v3) → (vp_in v3 62 ∧ (∀ x6 : Int32, x6 = (gA t4 5 v3.toNatClampNeg) → (∃ m36 : Nat, wp_X11_layTurns_L36 post (fun v19 => vp_in v3 62 ∧ (∀ x21 : Int32, x21 = (((gA t4 4 v3.toNatClampNeg) + v19) - ((gA t4 4 v3.toNatClampNeg) + v19) / 240 * 240) → (((0 ≤ x21) → (vp_in (v3 + 1) 62 ∧ (∀ x24 : Int32, x24 = (gA t4 3 (1 : Int32).toNatClampNeg) → (((v19 ≤ x24) → ((((-x24) ≤ v19) → (vp_in (v3 + 1) 62 ∧ (∀ x28 : Int32, x28 = v3 + 1 → (wp_X11_layTurns_L21 post K n21 (sA (sA t4 4 (upd (gA t4 4) (v3 + 1).toNatClampNeg x21)) 5 (upd (gA t4 5) (v3 + 1).toNatClampNeg 0)) x28)))) ∧ ((¬ (-x24) ≤ v19) → (∀ x30 : Int32, x30 = (v19 + x24) → (vp_in (v3 + 1) 62 ∧ (∀ x32 : Int32, x32 = v3 + 1 → (wp_X11_layTurns_L21 post K n21 (sA (sA t4 4 (upd (gA t4 4) (v3 + 1).toNatClampNeg x21)) 5 (upd (gA t4 5) (v3 + 1).toNatClampNeg x30)) x32))))))) ∧ ((¬ v19 ≤ x24) → (∀ x34 : Int32, x34 = (v19 - x24) → (vp_in (v3 + 1) 62 ∧ (∀ x36 : Int32, x36 = v3 + 1 → (wp_X11_layTurns_L21 post K n21 (sA (sA t4 4 (upd (gA t4 4) (v3 + 1).toNatClampNeg x21)) 5 (upd (gA t4 5) (v3 + 1).toNatClampNeg x34)) x36))))))))) ∧ ((¬ 0 ≤ x21) → (∀ x38 : Int32, x38 = (x21 + 240) → (vp_in (v3 + 1) 62 ∧ (∀ x40 : Int32, x40 = (gA t4 3 (1 : Int32).toNatClampNeg) → (((v19 ≤ x40) → ((((-x40) ≤ v19) → (vp_in (v3 + 1) 62 ∧ (∀ x44 : Int32, x44 = v3 + 1 → (wp_X11_layTurns_L21 post K n21 (sA (sA t4 4 (upd (gA t4 4) (v3 + 1).toNatClampNeg x38)) 5 (upd (gA t4 5) (v3 + 1).toNatClampNeg 0)) x44)))) ∧ ((¬ (-x40) ≤ v19) → (∀ x46 : Int32, x46 = (v19 + x40) → (vp_in (v3 + 1) 62 ∧ (∀ x48 : Int32, x48 = v3 + 1 → (wp_X11_layTurns_L21 post K n21 (sA (sA t4 4 (upd (gA t4 4) (v3 + 1).toNatClampNeg x38)) 5 (upd (gA t4 5) (v3 + 1).toNatClampNeg x46)) x48))))))) ∧ ((¬ v19 ≤ x40) → (∀ x50 : Int32, x50 = (v19 - x40) → (vp_in (v3 + 1) 62 ∧ (∀ x52 : Int32, x52 = v3 + 1 → (wp_X11_layTurns_L21 post K n21 (sA (sA t4 4 (upd (gA t4 4) (v3 + 1).toNatClampNeg x38)) 5 (upd (gA t4 5) (v3 + 1).toNatClampNeg x50)) x52))))))))))))) v3 t4 m36 x6 0))))
def wp_X11_layTurns (st : St) (post : St → Prop) : Prop := ∀ x1 : Int32, x1 = (gA st 3 (0 : Int32).toNatClampNeg) → (∃ m21 : Nat, wp_X11_layTurns_L21 post (fun t54 => post t54) m21 (sA (sA st 4 (upd (gA st 4) (0 : Int32).toNatClampNeg 0)) 5 (upd (gA st 5) (0 : Int32).toNatClampNeg x1)) 0)
set_option maxHeartbeats 4000000 in
set_option maxRecDepth 100000 in
theorem c_X11_layTurns (l : Launch) (D : va_G) (cy : Nat → ClassId) (tz : Nat → Nat) (ad : Nat → Nat) (st : St) (post : St → Prop) (h : wp_X11_layTurns st post) : CtV l D cy tz yX11_layTurns ws_X11_layTurns rm_X11_layTurns [.ref (ad 0)] (wM cy ad st) (wM cy ad) post := by
  refine CtV.of (own := RX11) (nm := "layTurns") (lv := [(0, .ref (ad 0))]) (plainFor_of_name (by decide)) rfl rfl (Nat.le_of_ble_eq_true rfl) rfl ?_
  intro p e s m args below meth c A Q ls B hP hD hS hl hret
  obtain ⟨hx, hb, hml, hown, hts, hK, hZ, hA, hnm⟩ := B
  have SF : CallFix p m c cX11_layTurns 5 s args wsL_law RX11 := ⟨hx, hb, hml, hown, hts⟩
  unfold wp_X11_layTurns at h
  refine lv_aload_n hx hb dX11_layTurns_0 rfl (lv_at hl 0 rfl) ?_
  refine va_get (D := D) (ci := 10) (v := .ref (ad 3)) (C := RX11) (T := TX11) (N := 35) hx hb hts inlX11 hown hK hP 0 rfl rfl 4 (by decide) (hts _ w_5_8) (fun _ h9 => h9) rfl dX11_layTurns_1 ?_
  refine lv_iconst (v := 0) hx hb dX11_layTurns_4 (by decide) ?_
  refine lv_iconst (v := 0) hx hb dX11_layTurns_5 (by decide) ?_
  refine va_iast (f := gA st 4) (n := 62) hx hb hK hP hD hS 3 0 rfl rfl (vin (by decide +kernel)) dX11_layTurns_6 (fun H locs hP hD hS => ?_)
  have hP : va_P D vwCl (wM cy ad (sA st 4 (upd (gA st 4) (0 : Int32).toNatClampNeg 0))) H := hP
  have hD : va_D A (wM cy ad (sA st 4 (upd (gA st 4) (0 : Int32).toNatClampNeg 0))) := hD
  refine lv_aload_n hx hb dX11_layTurns_7 rfl (lv_at hl 0 rfl) ?_
  refine va_get (D := D) (ci := 10) (v := .ref (ad 4)) (C := RX11) (T := TX11) (N := 35) hx hb hts inlX11 hown hK hP 0 rfl rfl 5 (by decide) (hts _ w_5_9) (fun _ h9 => h9) rfl dX11_layTurns_8 ?_
  refine lv_iconst (v := 0) hx hb dX11_layTurns_11 (by decide) ?_
  refine lv_aload_n hx hb dX11_layTurns_12 rfl (lv_at hl 0 rfl) ?_
  refine va_get (D := D) (ci := 10) (v := .ref (ad 2)) (C := RX11) (T := TX11) (N := 35) hx hb hts inlX11 hown hK hP 0 rfl rfl 3 (by decide) (hts _ w_5_7) (fun _ h9 => h9) rfl dX11_layTurns_13 ?_
  refine lv_iconst (v := 0) hx hb dX11_layTurns_16 (by decide) ?_
  refine va_iald (f := gA st 3) (n := 5) hx hb hK hP 2 0 rfl rfl (vin (by decide +kernel)) dX11_layTurns_17 ?_
  refine lv_topi (fun x1 e2 => ?_)
  have h := h x1 e2
  refine va_iast (f := gA st 5) (n := 62) hx hb hK hP hD hS 4 0 rfl rfl (vin (by decide +kernel)) dX11_layTurns_18 (fun H locs hP hD hS => ?_)
  have hP : va_P D vwCl (wM cy ad (sA (sA st 4 (upd (gA st 4) (0 : Int32).toNatClampNeg 0)) 5 (upd (gA st 5) (0 : Int32).toNatClampNeg x1))) H := hP
  have hD : va_D A (wM cy ad (sA (sA st 4 (upd (gA st 4) (0 : Int32).toNatClampNeg 0)) 5 (upd (gA st 5) (0 : Int32).toNatClampNeg x1))) := hD
  refine lv_iconst (v := 0) hx hb dX11_layTurns_19 (by decide) ?_
  refine lv_istore_n (lv' := [(1, .int 0), (0, .ref (ad 0))]) hx hb dX11_layTurns_20 rfl hl (by decide) rfl (fun ls hl => ?_)
  have loop21 : ∀ (K : St → Prop), (∀ (t54 : St) (H : Heap) (locs : List Loc) (ls : Array Slot), K t54 → va_P D vwCl (wM cy ad t54) H → va_D A (wM cy ad t54) → va_S A s.heap H locs → lv_has ls 5 [] → W p l e rm_X11_layTurns s m args below meth c H locs 0 0 Q (F0 m 160 ls [])) → ∀ (n : Nat) (t4 : St) (v3 : Int32) (H : Heap) (locs : List Loc) (ls : Array Slot), wp_X11_layTurns_L21 post K n t4 v3 → va_P D vwCl (wM cy ad t4) H → va_D A (wM cy ad t4) → va_S A s.heap H locs → lv_has ls 5 [(0, .ref (ad 0)), (1, .int v3)] → W p l e rm_X11_layTurns s m args below meth c H locs 0 0 Q (F0 m 21 ls []) := by
    intro K hE21 n
    induction n with
    | zero => intro t4 v3 H locs ls h; exact h.elim
    | succ n ih21 =>
      intro t4 v3 H locs ls h hP hD hS hl
      rw [wp_X11_layTurns_L21] at h
      refine lv_iload_n hx hb dX11_layTurns_21 rfl (lv_at hl 1 rfl) ?_
      refine lv_bipush (v := 60) hx hb dX11_layTurns_22 (by decide) ?_
      refine lv_icmp_gt (tgt := 160) hx hb dX11_layTurns_24 (by decide) (fun c5 => ?_) (fun c5 => ?_)
      · have h := h.1 c5
        exact hE21 _ _ _ _ h hP hD hS (lv_sub hl [] rfl)
      · have h := h.2 c5
        refine lv_aload_n hx hb dX11_layTurns_27 rfl (lv_at hl 0 rfl) ?_
        refine va_get (D := D) (ci := 10) (v := .ref (ad 4)) (C := RX11) (T := TX11) (N := 35) hx hb hts inlX11 hown hK hP 0 rfl rfl 5 (by decide) (hts _ w_5_9) (fun _ h9 => h9) rfl dX11_layTurns_28 ?_
        refine lv_iload_n hx hb dX11_layTurns_31 rfl (lv_at hl 1 rfl) ?_
        refine va_iald (f := gA t4 5) (n := 62) hx hb hK hP 4 0 rfl rfl h.1 dX11_layTurns_32 ?_
        have h := h.2
        refine lv_topi (fun x6 e7 => ?_)
        have h := h x6 e7
        refine lv_istore_n (lv' := [(2, .int x6), (0, .ref (ad 0)), (1, .int v3)]) hx hb dX11_layTurns_33 rfl hl (by decide) rfl (fun ls hl => ?_)
        refine lv_iconst (v := 0) hx hb dX11_layTurns_34 (by decide) ?_
        refine lv_istore_n (lv' := [(3, .int 0), (2, .int x6), (0, .ref (ad 0)), (1, .int v3)]) hx hb dX11_layTurns_35 rfl hl (by decide) rfl (fun ls hl => ?_)
        have loop36 : ∀ (K : Int32 → Prop), (∀ (v19 : Int32) (H : Heap) (locs : List Loc) (ls : Array Slot), K v19 → va_P D vwCl (wM cy ad t4) H → va_D A (wM cy ad t4) → va_S A s.heap H locs → lv_has ls 5 [(0, .ref (ad 0)), (1, .int v3), (2, .int v19)] → W p l e rm_X11_layTurns s m args below meth c H locs 0 0 Q (F0 m 76 ls [])) → ∀ (n : Nat) (v8 : Int32) (v9 : Int32) (H : Heap) (locs : List Loc) (ls : Array Slot), wp_X11_layTurns_L36 post K v3 t4 n v8 v9 → va_P D vwCl (wM cy ad t4) H → va_D A (wM cy ad t4) → va_S A s.heap H locs → lv_has ls 5 [(0, .ref (ad 0)), (1, .int v3), (2, .int v8), (3, .int v9)] → W p l e rm_X11_layTurns s m args below meth c H locs 0 0 Q (F0 m 36 ls []) := by
          intro K hE36 n
          induction n with
          | zero => intro v8 v9 H locs ls h; exact h.elim
          | succ n ih36 =>
            intro v8 v9 H locs ls h hP hD hS hl
            rw [wp_X11_layTurns_L36] at h
            refine lv_iload_n hx hb dX11_layTurns_36 rfl (lv_at hl 3 rfl) ?_
            refine lv_aload_n hx hb dX11_layTurns_37 rfl (lv_at hl 0 rfl) ?_
            refine va_get (D := D) (ci := 10) (v := .int (gI t4 10)) (C := RX11) (T := TX11) (N := 35) hx hb hts inlX11 hown hK hP 0 rfl rfl 10 (by decide) (hts _ w_10_1) (fun _ h9 => h9) rfl dX11_layTurns_38 ?_
            refine lv_icmp_ge (tgt := 76) hx hb dX11_layTurns_41 (by decide) (fun c11 => ?_) (fun c11 => ?_)
            · have h := h.1 c11
              exact hE36 _ _ _ _ h hP hD hS (lv_sub hl [0, 1, 2] rfl)
            · have h := h.2 c11
              refine lv_aload_n hx hb dX11_layTurns_44 rfl (lv_at hl 0 rfl) ?_
              refine va_get (D := D) (ci := 10) (v := .ref (ad 6)) (C := RX11) (T := TX11) (N := 35) hx hb hts inlX11 hown hK hP 0 rfl rfl 8 (by decide) (hts _ w_5_11) (fun _ h9 => h9) rfl dX11_layTurns_45 ?_
              refine lv_iload_n hx hb dX11_layTurns_48 rfl (lv_at hl 3 rfl) ?_
              refine va_iald (f := gA t4 8) (n := 20) hx hb hK hP 6 0 rfl rfl h.1 dX11_layTurns_49 ?_
              have h := h.2
              refine lv_iload_n hx hb dX11_layTurns_50 rfl (lv_at hl 1 rfl) ?_
              refine lv_icmp_ne (tgt := 68) hx hb dX11_layTurns_51 (by decide) (fun c12 => ?_) (fun c12 => ?_)
              · have h := h.1 c12
                refine lv_iload_n hx hb dX11_layTurns_68 rfl (lv_at hl 2 rfl) ?_
                refine lv_istore_n (lv' := [(2, .int v8), (0, .ref (ad 0)), (1, .int v3), (3, .int v9)]) hx hb dX11_layTurns_69 rfl hl (by decide) rfl (fun ls hl => ?_)
                obtain ⟨x13, e14⟩ : ∃ z : Int32, z = v9 + 1 := ⟨_, rfl⟩
                have h := h x13 e14
                refine lv_iinc (v := x13) (lv' := [(3, .int x13), (2, .int v8), (0, .ref (ad 0)), (1, .int v3)]) hx hb dX11_layTurns_70 hl (k := 3) rfl (by rw [e14]; rfl) (by decide) rfl (fun ls hl => ?_)
                refine lv_goto (tgt := 36) hx hb dX11_layTurns_73 (by decide) ?_
                exact ih36 _ _ _ _ _ h hP hD hS (lv_sub hl [2, 3, 1, 0] rfl)
              · have h := h.2 c12
                refine lv_iload_n hx hb dX11_layTurns_54 rfl (lv_at hl 2 rfl) ?_
                refine lv_aload_n hx hb dX11_layTurns_55 rfl (lv_at hl 0 rfl) ?_
                refine va_get (D := D) (ci := 10) (v := .ref (ad 7)) (C := RX11) (T := TX11) (N := 35) hx hb hts inlX11 hown hK hP 0 rfl rfl 9 (by decide) (hts _ w_5_12) (fun _ h9 => h9) rfl dX11_layTurns_56 ?_
                refine lv_iload_n hx hb dX11_layTurns_59 rfl (lv_at hl 3 rfl) ?_
                refine va_iald (f := gA t4 9) (n := 20) hx hb hK hP 7 0 rfl rfl h.1 dX11_layTurns_60 ?_
                have h := h.2
                refine lv_iadd hx hb dX11_layTurns_61 ?_
                refine callSIr (rest := []) SF (c_X11_held l D cy tz _ (v8 + (gA t4 9 v9.toNatClampNeg)) _ h) (cw_RX11_115 hts ⟨Nat.le_of_ble_eq_true rfl, Nat.le_of_ble_eq_true rfl⟩) rfl rfl hK hZ hA hP hD hS rfl hl.1 rfl (Nat.le_of_ble_eq_true rfl) dX11_layTurns_62 ⟨Nat.zero_le _, Nat.zero_le _⟩ (fun r15 H locs h hP hD hS => ?_)
                refine lv_goto (tgt := 69) hx hb dX11_layTurns_65 (by decide) ?_
                refine lv_istore_n (lv' := [(2, .int r15), (0, .ref (ad 0)), (1, .int v3), (3, .int v9)]) hx hb dX11_layTurns_69 rfl hl (by decide) rfl (fun ls hl => ?_)
                obtain ⟨x17, e18⟩ : ∃ z : Int32, z = v9 + 1 := ⟨_, rfl⟩
                have h := h x17 e18
                refine lv_iinc (v := x17) (lv' := [(3, .int x17), (2, .int r15), (0, .ref (ad 0)), (1, .int v3)]) hx hb dX11_layTurns_70 hl (k := 3) rfl (by rw [e18]; rfl) (by decide) rfl (fun ls hl => ?_)
                refine lv_goto (tgt := 36) hx hb dX11_layTurns_73 (by decide) ?_
                exact ih36 _ _ _ _ _ h hP hD hS (lv_sub hl [2, 3, 1, 0] rfl)
        obtain ⟨n, h⟩ := h
        refine loop36 _ ?_ n _ _ _ _ _ h hP hD hS (lv_sub hl [2, 3, 1, 0] rfl)
        intro v19 H locs ls h hP hD hS hl
        refine lv_aload_n hx hb dX11_layTurns_76 rfl (lv_at hl 0 rfl) ?_
        refine va_get (D := D) (ci := 10) (v := .ref (ad 3)) (C := RX11) (T := TX11) (N := 35) hx hb hts inlX11 hown hK hP 0 rfl rfl 4 (by decide) (hts _ w_5_8) (fun _ h9 => h9) rfl dX11_layTurns_77 ?_
        refine lv_iload_n hx hb dX11_layTurns_80 rfl (lv_at hl 1 rfl) ?_
        refine va_iald (f := gA t4 4) (n := 62) hx hb hK hP 3 0 rfl rfl h.1 dX11_layTurns_81 ?_
        have h := h.2
        refine lv_iload_n hx hb dX11_layTurns_82 rfl (lv_at hl 2 rfl) ?_
        refine lv_iadd hx hb dX11_layTurns_83 ?_
        refine lv_sipush (v := 240) hx hb dX11_layTurns_84 (by decide) ?_
        refine lv_irem hx hb dX11_layTurns_87 (by decide) ?_
        refine lv_topi (fun x21 e22 => ?_)
        have h := h x21 e22
        refine lv_istore_n (lv' := [(3, .int x21), (0, .ref (ad 0)), (1, .int v3), (2, .int v19)]) hx hb dX11_layTurns_88 rfl hl (by decide) rfl (fun ls hl => ?_)
        refine lv_aload_n hx hb dX11_layTurns_89 rfl (lv_at hl 1 rfl) ?_
        refine va_get (D := D) (ci := 10) (v := .ref (ad 3)) (C := RX11) (T := TX11) (N := 35) hx hb hts inlX11 hown hK hP 0 rfl rfl 4 (by decide) (hts _ w_5_8) (fun _ h9 => h9) rfl dX11_layTurns_90 ?_
        refine lv_iload_n hx hb dX11_layTurns_93 rfl (lv_at hl 2 rfl) ?_
        refine lv_iconst (v := 1) hx hb dX11_layTurns_94 (by decide) ?_
        refine lv_iadd hx hb dX11_layTurns_95 ?_
        refine lv_iload_n hx hb dX11_layTurns_96 rfl (lv_at hl 0 rfl) ?_
        refine lv_if_ge (tgt := 108) hx hb dX11_layTurns_97 (by decide) (fun c23 => ?_) (fun c23 => ?_)
        · have h := h.1 c23
          refine lv_iload_n hx hb dX11_layTurns_108 rfl (lv_at hl 0 rfl) ?_
          refine va_iast (f := gA t4 4) (n := 62) hx hb hK hP hD hS 3 0 rfl rfl h.1 dX11_layTurns_109 (fun H locs hP hD hS => ?_)
          have h := h.2
          have hP : va_P D vwCl (wM cy ad (sA t4 4 (upd (gA t4 4) (v3 + 1).toNatClampNeg x21))) H := hP
          have hD : va_D A (wM cy ad (sA t4 4 (upd (gA t4 4) (v3 + 1).toNatClampNeg x21))) := hD
          refine lv_aload_n hx hb dX11_layTurns_110 rfl (lv_at hl 1 rfl) ?_
          refine va_get (D := D) (ci := 10) (v := .ref (ad 2)) (C := RX11) (T := TX11) (N := 35) hx hb hts inlX11 hown hK hP 0 rfl rfl 3 (by decide) (hts _ w_5_7) (fun _ h9 => h9) rfl dX11_layTurns_111 ?_
          refine lv_iconst (v := 1) hx hb dX11_layTurns_114 (by decide) ?_
          refine va_iald (f := gA t4 3) (n := 5) hx hb hK hP 2 0 rfl rfl (vin (by decide +kernel)) dX11_layTurns_115 ?_
          refine lv_topi (fun x24 e25 => ?_)
          have h := h x24 e25
          refine lv_istore (lv' := [(4, .int x24), (3, .int x21), (0, .ref (ad 0)), (1, .int v3), (2, .int v19)]) hx hb dX11_layTurns_116 hl (by decide) rfl (fun ls hl => ?_)
          refine lv_aload_n hx hb dX11_layTurns_118 rfl (lv_at hl 2 rfl) ?_
          refine va_get (D := D) (ci := 10) (v := .ref (ad 4)) (C := RX11) (T := TX11) (N := 35) hx hb hts inlX11 hown hK hP 0 rfl rfl 5 (by decide) (hts _ w_5_9) (fun _ h9 => h9) rfl dX11_layTurns_119 ?_
          refine lv_iload_n hx hb dX11_layTurns_122 rfl (lv_at hl 3 rfl) ?_
          refine lv_iconst (v := 1) hx hb dX11_layTurns_123 (by decide) ?_
          refine lv_iadd hx hb dX11_layTurns_124 ?_
          refine lv_iload_n hx hb dX11_layTurns_125 rfl (lv_at hl 4 rfl) ?_
          refine lv_iload hx hb dX11_layTurns_126 (lv_at hl 0 rfl) ?_
          refine lv_icmp_le (tgt := 138) hx hb dX11_layTurns_128 (by decide) (fun c26 => ?_) (fun c26 => ?_)
          · have h := h.1 c26
            refine lv_iload_n hx hb dX11_layTurns_138 rfl (lv_at hl 4 rfl) ?_
            refine lv_iload hx hb dX11_layTurns_139 (lv_at hl 0 rfl) ?_
            refine lv_ineg hx hb dX11_layTurns_141 ?_
            refine lv_icmp_ge (tgt := 152) hx hb dX11_layTurns_142 (by decide) (fun c27 => ?_) (fun c27 => ?_)
            · have h := h.1 c27
              refine lv_iconst (v := 0) hx hb dX11_layTurns_152 (by decide) ?_
              refine va_iast (f := gA t4 5) (n := 62) hx hb hK hP hD hS 4 0 rfl rfl h.1 dX11_layTurns_153 (fun H locs hP hD hS => ?_)
              have h := h.2
              have hP : va_P D vwCl (wM cy ad (sA (sA t4 4 (upd (gA t4 4) (v3 + 1).toNatClampNeg x21)) 5 (upd (gA t4 5) (v3 + 1).toNatClampNeg 0))) H := hP
              have hD : va_D A (wM cy ad (sA (sA t4 4 (upd (gA t4 4) (v3 + 1).toNatClampNeg x21)) 5 (upd (gA t4 5) (v3 + 1).toNatClampNeg 0))) := hD
              obtain ⟨x28, e29⟩ : ∃ z : Int32, z = v3 + 1 := ⟨_, rfl⟩
              have h := h x28 e29
              refine lv_iinc (v := x28) (lv' := [(1, .int x28), (4, .int x24), (3, .int x21), (0, .ref (ad 0)), (2, .int v19)]) hx hb dX11_layTurns_154 hl (k := 3) rfl (by rw [e29]; rfl) (by decide) rfl (fun ls hl => ?_)
              refine lv_goto (tgt := 21) hx hb dX11_layTurns_157 (by decide) ?_
              exact ih21 _ _ _ _ _ h hP hD hS (lv_sub hl [3, 0] rfl)
            · have h := h.2 c27
              refine lv_iload_n hx hb dX11_layTurns_145 rfl (lv_at hl 4 rfl) ?_
              refine lv_iload hx hb dX11_layTurns_146 (lv_at hl 0 rfl) ?_
              refine lv_iadd hx hb dX11_layTurns_148 ?_
              refine lv_goto (tgt := 153) hx hb dX11_layTurns_149 (by decide) ?_
              refine lv_topi (fun x30 e31 => ?_)
              have h := h x30 e31
              refine va_iast (f := gA t4 5) (n := 62) hx hb hK hP hD hS 4 0 rfl rfl h.1 dX11_layTurns_153 (fun H locs hP hD hS => ?_)
              have h := h.2
              have hP : va_P D vwCl (wM cy ad (sA (sA t4 4 (upd (gA t4 4) (v3 + 1).toNatClampNeg x21)) 5 (upd (gA t4 5) (v3 + 1).toNatClampNeg x30))) H := hP
              have hD : va_D A (wM cy ad (sA (sA t4 4 (upd (gA t4 4) (v3 + 1).toNatClampNeg x21)) 5 (upd (gA t4 5) (v3 + 1).toNatClampNeg x30))) := hD
              obtain ⟨x32, e33⟩ : ∃ z : Int32, z = v3 + 1 := ⟨_, rfl⟩
              have h := h x32 e33
              refine lv_iinc (v := x32) (lv' := [(1, .int x32), (4, .int x24), (3, .int x21), (0, .ref (ad 0)), (2, .int v19)]) hx hb dX11_layTurns_154 hl (k := 3) rfl (by rw [e33]; rfl) (by decide) rfl (fun ls hl => ?_)
              refine lv_goto (tgt := 21) hx hb dX11_layTurns_157 (by decide) ?_
              exact ih21 _ _ _ _ _ h hP hD hS (lv_sub hl [3, 0] rfl)
          · have h := h.2 c26
            refine lv_iload_n hx hb dX11_layTurns_131 rfl (lv_at hl 4 rfl) ?_
            refine lv_iload hx hb dX11_layTurns_132 (lv_at hl 0 rfl) ?_
            refine lv_isub hx hb dX11_layTurns_134 ?_
            refine lv_goto (tgt := 153) hx hb dX11_layTurns_135 (by decide) ?_
            refine lv_topi (fun x34 e35 => ?_)
            have h := h x34 e35
            refine va_iast (f := gA t4 5) (n := 62) hx hb hK hP hD hS 4 0 rfl rfl h.1 dX11_layTurns_153 (fun H locs hP hD hS => ?_)
            have h := h.2
            have hP : va_P D vwCl (wM cy ad (sA (sA t4 4 (upd (gA t4 4) (v3 + 1).toNatClampNeg x21)) 5 (upd (gA t4 5) (v3 + 1).toNatClampNeg x34))) H := hP
            have hD : va_D A (wM cy ad (sA (sA t4 4 (upd (gA t4 4) (v3 + 1).toNatClampNeg x21)) 5 (upd (gA t4 5) (v3 + 1).toNatClampNeg x34))) := hD
            obtain ⟨x36, e37⟩ : ∃ z : Int32, z = v3 + 1 := ⟨_, rfl⟩
            have h := h x36 e37
            refine lv_iinc (v := x36) (lv' := [(1, .int x36), (4, .int x24), (3, .int x21), (0, .ref (ad 0)), (2, .int v19)]) hx hb dX11_layTurns_154 hl (k := 3) rfl (by rw [e37]; rfl) (by decide) rfl (fun ls hl => ?_)
            refine lv_goto (tgt := 21) hx hb dX11_layTurns_157 (by decide) ?_
            exact ih21 _ _ _ _ _ h hP hD hS (lv_sub hl [3, 0] rfl)
        · have h := h.2 c23
          refine lv_iload_n hx hb dX11_layTurns_100 rfl (lv_at hl 0 rfl) ?_
          refine lv_sipush (v := 240) hx hb dX11_layTurns_101 (by decide) ?_
          refine lv_iadd hx hb dX11_layTurns_104 ?_
          refine lv_goto (tgt := 109) hx hb dX11_layTurns_105 (by decide) ?_
          refine lv_topi (fun x38 e39 => ?_)
          have h := h x38 e39
          refine va_iast (f := gA t4 4) (n := 62) hx hb hK hP hD hS 3 0 rfl rfl h.1 dX11_layTurns_109 (fun H locs hP hD hS => ?_)
          have h := h.2
          have hP : va_P D vwCl (wM cy ad (sA t4 4 (upd (gA t4 4) (v3 + 1).toNatClampNeg x38))) H := hP
          have hD : va_D A (wM cy ad (sA t4 4 (upd (gA t4 4) (v3 + 1).toNatClampNeg x38))) := hD
          refine lv_aload_n hx hb dX11_layTurns_110 rfl (lv_at hl 1 rfl) ?_
          refine va_get (D := D) (ci := 10) (v := .ref (ad 2)) (C := RX11) (T := TX11) (N := 35) hx hb hts inlX11 hown hK hP 0 rfl rfl 3 (by decide) (hts _ w_5_7) (fun _ h9 => h9) rfl dX11_layTurns_111 ?_
          refine lv_iconst (v := 1) hx hb dX11_layTurns_114 (by decide) ?_
          refine va_iald (f := gA t4 3) (n := 5) hx hb hK hP 2 0 rfl rfl (vin (by decide +kernel)) dX11_layTurns_115 ?_
          refine lv_topi (fun x40 e41 => ?_)
          have h := h x40 e41
          refine lv_istore (lv' := [(4, .int x40), (3, .int x21), (0, .ref (ad 0)), (1, .int v3), (2, .int v19)]) hx hb dX11_layTurns_116 hl (by decide) rfl (fun ls hl => ?_)
          refine lv_aload_n hx hb dX11_layTurns_118 rfl (lv_at hl 2 rfl) ?_
          refine va_get (D := D) (ci := 10) (v := .ref (ad 4)) (C := RX11) (T := TX11) (N := 35) hx hb hts inlX11 hown hK hP 0 rfl rfl 5 (by decide) (hts _ w_5_9) (fun _ h9 => h9) rfl dX11_layTurns_119 ?_
          refine lv_iload_n hx hb dX11_layTurns_122 rfl (lv_at hl 3 rfl) ?_
          refine lv_iconst (v := 1) hx hb dX11_layTurns_123 (by decide) ?_
          refine lv_iadd hx hb dX11_layTurns_124 ?_
          refine lv_iload_n hx hb dX11_layTurns_125 rfl (lv_at hl 4 rfl) ?_
          refine lv_iload hx hb dX11_layTurns_126 (lv_at hl 0 rfl) ?_
          refine lv_icmp_le (tgt := 138) hx hb dX11_layTurns_128 (by decide) (fun c42 => ?_) (fun c42 => ?_)
          · have h := h.1 c42
            refine lv_iload_n hx hb dX11_layTurns_138 rfl (lv_at hl 4 rfl) ?_
            refine lv_iload hx hb dX11_layTurns_139 (lv_at hl 0 rfl) ?_
            refine lv_ineg hx hb dX11_layTurns_141 ?_
            refine lv_icmp_ge (tgt := 152) hx hb dX11_layTurns_142 (by decide) (fun c43 => ?_) (fun c43 => ?_)
            · have h := h.1 c43
              refine lv_iconst (v := 0) hx hb dX11_layTurns_152 (by decide) ?_
              refine va_iast (f := gA t4 5) (n := 62) hx hb hK hP hD hS 4 0 rfl rfl h.1 dX11_layTurns_153 (fun H locs hP hD hS => ?_)
              have h := h.2
              have hP : va_P D vwCl (wM cy ad (sA (sA t4 4 (upd (gA t4 4) (v3 + 1).toNatClampNeg x38)) 5 (upd (gA t4 5) (v3 + 1).toNatClampNeg 0))) H := hP
              have hD : va_D A (wM cy ad (sA (sA t4 4 (upd (gA t4 4) (v3 + 1).toNatClampNeg x38)) 5 (upd (gA t4 5) (v3 + 1).toNatClampNeg 0))) := hD
              obtain ⟨x44, e45⟩ : ∃ z : Int32, z = v3 + 1 := ⟨_, rfl⟩
              have h := h x44 e45
              refine lv_iinc (v := x44) (lv' := [(1, .int x44), (4, .int x40), (3, .int x21), (0, .ref (ad 0)), (2, .int v19)]) hx hb dX11_layTurns_154 hl (k := 3) rfl (by rw [e45]; rfl) (by decide) rfl (fun ls hl => ?_)
              refine lv_goto (tgt := 21) hx hb dX11_layTurns_157 (by decide) ?_
              exact ih21 _ _ _ _ _ h hP hD hS (lv_sub hl [3, 0] rfl)
            · have h := h.2 c43
              refine lv_iload_n hx hb dX11_layTurns_145 rfl (lv_at hl 4 rfl) ?_
              refine lv_iload hx hb dX11_layTurns_146 (lv_at hl 0 rfl) ?_
              refine lv_iadd hx hb dX11_layTurns_148 ?_
              refine lv_goto (tgt := 153) hx hb dX11_layTurns_149 (by decide) ?_
              refine lv_topi (fun x46 e47 => ?_)
              have h := h x46 e47
              refine va_iast (f := gA t4 5) (n := 62) hx hb hK hP hD hS 4 0 rfl rfl h.1 dX11_layTurns_153 (fun H locs hP hD hS => ?_)
              have h := h.2
              have hP : va_P D vwCl (wM cy ad (sA (sA t4 4 (upd (gA t4 4) (v3 + 1).toNatClampNeg x38)) 5 (upd (gA t4 5) (v3 + 1).toNatClampNeg x46))) H := hP
              have hD : va_D A (wM cy ad (sA (sA t4 4 (upd (gA t4 4) (v3 + 1).toNatClampNeg x38)) 5 (upd (gA t4 5) (v3 + 1).toNatClampNeg x46))) := hD
              obtain ⟨x48, e49⟩ : ∃ z : Int32, z = v3 + 1 := ⟨_, rfl⟩
              have h := h x48 e49
              refine lv_iinc (v := x48) (lv' := [(1, .int x48), (4, .int x40), (3, .int x21), (0, .ref (ad 0)), (2, .int v19)]) hx hb dX11_layTurns_154 hl (k := 3) rfl (by rw [e49]; rfl) (by decide) rfl (fun ls hl => ?_)
              refine lv_goto (tgt := 21) hx hb dX11_layTurns_157 (by decide) ?_
              exact ih21 _ _ _ _ _ h hP hD hS (lv_sub hl [3, 0] rfl)
          · have h := h.2 c42
            refine lv_iload_n hx hb dX11_layTurns_131 rfl (lv_at hl 4 rfl) ?_
            refine lv_iload hx hb dX11_layTurns_132 (lv_at hl 0 rfl) ?_
            refine lv_isub hx hb dX11_layTurns_134 ?_
            refine lv_goto (tgt := 153) hx hb dX11_layTurns_135 (by decide) ?_
            refine lv_topi (fun x50 e51 => ?_)
            have h := h x50 e51
            refine va_iast (f := gA t4 5) (n := 62) hx hb hK hP hD hS 4 0 rfl rfl h.1 dX11_layTurns_153 (fun H locs hP hD hS => ?_)
            have h := h.2
            have hP : va_P D vwCl (wM cy ad (sA (sA t4 4 (upd (gA t4 4) (v3 + 1).toNatClampNeg x38)) 5 (upd (gA t4 5) (v3 + 1).toNatClampNeg x50))) H := hP
            have hD : va_D A (wM cy ad (sA (sA t4 4 (upd (gA t4 4) (v3 + 1).toNatClampNeg x38)) 5 (upd (gA t4 5) (v3 + 1).toNatClampNeg x50))) := hD
            obtain ⟨x52, e53⟩ : ∃ z : Int32, z = v3 + 1 := ⟨_, rfl⟩
            have h := h x52 e53
            refine lv_iinc (v := x52) (lv' := [(1, .int x52), (4, .int x40), (3, .int x21), (0, .ref (ad 0)), (2, .int v19)]) hx hb dX11_layTurns_154 hl (k := 3) rfl (by rw [e53]; rfl) (by decide) rfl (fun ls hl => ?_)
            refine lv_goto (tgt := 21) hx hb dX11_layTurns_157 (by decide) ?_
            exact ih21 _ _ _ _ _ h hP hD hS (lv_sub hl [3, 0] rfl)
  obtain ⟨n, h⟩ := h
  refine loop21 _ ?_ n _ _ _ _ _ h hP hD hS (lv_sub hl [1, 0] rfl)
  intro t54 H locs ls h hP hD hS hl
  exact hret _ _ _ _ _ h hP hD hS dX11_layTurns_160
-- X11_wayAt
def rm_X11_wayAt : Room := { frames := 0, cells := 0, slots := 0, locals := 0 }
abbrev ws_X11_wayAt : List Cond := .code yX11_wayAt cX11_wayAt 2 (some .int) :: wsL_law
def wp_X11_wayAt (st : St) (a1 : Int32) (post : Int32 → Prop) : Prop := vp_in a1 62 ∧ (post ((gA st 4 a1.toNatClampNeg) / 10))
set_option maxHeartbeats 4000000 in
set_option maxRecDepth 100000 in
theorem c_X11_wayAt (l : Launch) (D : va_G) (cy : Nat → ClassId) (tz : Nat → Nat) (ad : Nat → Nat) (st : St) (a1 : Int32) (post : Int32 → Prop) (h : wp_X11_wayAt st a1 post) : CtI l D cy tz yX11_wayAt ws_X11_wayAt rm_X11_wayAt [.ref (ad 0), .int a1] (wM cy ad st) (fun _ : Unit => wM cy ad st) (fun r _ => post r) := by
  refine CtI.of (own := RX11) (nm := "wayAt") (lv := [(0, .ref (ad 0)), (1, .int a1)]) (plainFor_of_name (by decide)) rfl rfl (Nat.le_of_ble_eq_true rfl) rfl ?_
  intro p e s m args below meth c A Q ls B hP hD hS hl hret
  obtain ⟨hx, hb, hml, hown, hts, hK, hZ, hA, hnm⟩ := B
  have SF : CallFix p m c cX11_wayAt 2 s args wsL_law RX11 := ⟨hx, hb, hml, hown, hts⟩
  unfold wp_X11_wayAt at h
  refine lv_aload_n hx hb dX11_wayAt_0 rfl (lv_at hl 0 rfl) ?_
  refine va_get (D := D) (ci := 10) (v := .ref (ad 3)) (C := RX11) (T := TX11) (N := 35) hx hb hts inlX11 hown hK hP 0 rfl rfl 4 (by decide) (hts _ w_5_8) (fun _ h9 => h9) rfl dX11_wayAt_1 ?_
  refine lv_iload_n hx hb dX11_wayAt_4 rfl (lv_at hl 1 rfl) ?_
  refine va_iald (f := gA st 4) (n := 62) hx hb hK hP 3 0 rfl rfl h.1 dX11_wayAt_5 ?_
  have h := h.2
  refine lv_bipush (v := 10) hx hb dX11_wayAt_6 (by decide) ?_
  refine lv_idiv hx hb dX11_wayAt_8 (by decide) ?_
  exact hret _ () _ _ _ _ rfl h hP hD hS dX11_wayAt_9
-- X11_turn
def rm_X11_turn : Room := { frames := 2, cells := 0, slots := 0, locals := 45 }
abbrev ws_X11_turn : List Cond := .code yX11_turn cX11_turn 3 (some .int) :: wsL_law
theorem cw_RX11_118 {R : Room} {s : State} {args : Array Value} (hts : ∀ w ∈ wsL_law, w.before args s = true) (hR : rm_X11_isTick.frames + 1 ≤ R.frames ∧ 8 + (1 + 11) + rm_X11_isTick.locals ≤ R.locals) : CallB R s args RX11 118 yX11_isTick cX11_isTick 1 (some .boolean) ws_X11_isTick rm_X11_isTick rm_X11_isTick.cells rm_X11_isTick.slots 1 ∧ (Cond.static yX11_isTick).before args s = true := va_cwS 1 hts (gdS w_12_2 w_12_3 w_1_5 w_12_4) rfl rfl rfl (by decide +kernel) hR
theorem cw_RX11_121 {R : Room} {s : State} {args : Array Value} (hts : ∀ w ∈ wsL_law, w.before args s = true) (hR : rm_X11_isEnd.frames + 1 ≤ R.frames ∧ 8 + (1 + 11) + rm_X11_isEnd.locals ≤ R.locals) : CallB R s args RX11 121 yX11_isEnd cX11_isEnd 1 (some .boolean) ws_X11_isEnd rm_X11_isEnd rm_X11_isEnd.cells rm_X11_isEnd.slots 1 ∧ (Cond.static yX11_isEnd).before args s = true := va_cwS 1 hts (gdS w_12_6 w_12_7 w_1_5 w_12_8) rfl rfl rfl (by decide +kernel) hR
theorem cw_RX11_124 {R : Room} {s : State} {args : Array Value} (hts : ∀ w ∈ wsL_law, w.before args s = true) (hR : rm_X11_layTurns.frames + 1 ≤ R.frames ∧ 8 + (5 + 11) + rm_X11_layTurns.locals ≤ R.locals) : CallW R s args RX11 RX11 124 yX11_layTurns cX11_layTurns 5 none ws_X11_layTurns rm_X11_layTurns rm_X11_layTurns.cells rm_X11_layTurns.slots 0 := cwV 0 hts (gdV w_12_9 w_12_10 w_12_11 w_1_5 w_12_12) rfl rfl rfl (by decide +kernel) hR
def wp_X11_turn (st : St) (a1 : Int32) (a2 : Int32) (post : Int32 → St → Prop) : Prop := wp_X11_isTick a1 (fun r1 => ((r1 = 0) → (post (-2) st)) ∧ ((¬ r1 = 0) → (wp_X11_isEnd a2 (fun r4 => ((¬ r4 = 0) → (wp_X11_layTurns st (fun t8 => ((¬ a2 = 0) → (vp_in a1 62 ∧ (post ((gA t8 5 a1.toNatClampNeg) + 100) t8))) ∧ ((a2 = 0) → (vp_in a1 62 ∧ (post (gA t8 4 a1.toNatClampNeg) t8)))))) ∧ ((r4 = 0) → (post (-2) st))))))
set_option maxHeartbeats 4000000 in
set_option maxRecDepth 100000 in
theorem c_X11_turn (l : Launch) (D : va_G) (cy : Nat → ClassId) (tz : Nat → Nat) (ad : Nat → Nat) (st : St) (a1 : Int32) (a2 : Int32) (post : Int32 → St → Prop) (h : wp_X11_turn st a1 a2 post) : CtI l D cy tz yX11_turn ws_X11_turn rm_X11_turn [.ref (ad 0), .int a1, .int a2] (wM cy ad st) (wM cy ad) post := by
  refine CtI.of (own := RX11) (nm := "turn") (lv := [(0, .ref (ad 0)), (1, .int a1), (2, .int a2)]) (plainFor_of_name (by decide)) rfl rfl (Nat.le_of_ble_eq_true rfl) rfl ?_
  intro p e s m args below meth c A Q ls B hP hD hS hl hret
  obtain ⟨hx, hb, hml, hown, hts, hK, hZ, hA, hnm⟩ := B
  have SF : CallFix p m c cX11_turn 3 s args wsL_law RX11 := ⟨hx, hb, hml, hown, hts⟩
  unfold wp_X11_turn at h
  refine lv_iload_n hx hb dX11_turn_0 rfl (lv_at hl 1 rfl) ?_
  refine callSIr (rest := []) SF (c_X11_isTick l D cy tz _ a1 _ h) (cw_RX11_118 hts ⟨Nat.le_of_ble_eq_true rfl, Nat.le_of_ble_eq_true rfl⟩) rfl rfl hK hZ hA hP hD hS rfl hl.1 rfl (Nat.le_of_ble_eq_true rfl) dX11_turn_1 ⟨Nat.zero_le _, Nat.zero_le _⟩ (fun r1 H locs h hP hD hS => ?_)
  refine lv_if_eq (tgt := 14) hx hb dX11_turn_4 (by decide) (fun c3 => ?_) (fun c3 => ?_)
  · have h := h.1 c3
    refine lv_bipush (v := (-2)) hx hb dX11_turn_14 (by decide) ?_
    exact hret _ _ _ _ _ _ rfl h hP hD hS dX11_turn_16
  · have h := h.2 c3
    refine lv_iload_n hx hb dX11_turn_7 rfl (lv_at hl 2 rfl) ?_
    refine callSIr (rest := []) SF (c_X11_isEnd l D cy tz _ a2 _ h) (cw_RX11_121 hts ⟨Nat.le_of_ble_eq_true rfl, Nat.le_of_ble_eq_true rfl⟩) rfl rfl hK hZ hA hP hD hS rfl hl.1 rfl (Nat.le_of_ble_eq_true rfl) dX11_turn_8 ⟨Nat.zero_le _, Nat.zero_le _⟩ (fun r4 H locs h hP hD hS => ?_)
    refine lv_if_ne (tgt := 17) hx hb dX11_turn_11 (by decide) (fun c6 => ?_) (fun c6 => ?_)
    · have h := h.1 c6
      refine lv_aload_n hx hb dX11_turn_17 rfl (lv_at hl 0 rfl) ?_
      refine callVV (rest := []) SF (c_X11_layTurns l D cy tz ad st _ h) (cw_RX11_124 hts ⟨Nat.le_of_ble_eq_true rfl, Nat.le_of_ble_eq_true rfl⟩) rfl rfl (va_recv hK hP (ci := 10) (q0 := 0) rfl rfl) hK hZ hA hP hD hS rfl hl.1 rfl (Nat.le_of_ble_eq_true rfl) dX11_turn_18 ⟨Nat.zero_le _, Nat.zero_le _⟩ (fun t8 H locs h hP hD hS => ?_)
      refine lv_iload_n hx hb dX11_turn_21 rfl (lv_at hl 2 rfl) ?_
      refine lv_if_ne (tgt := 34) hx hb dX11_turn_22 (by decide) (fun c9 => ?_) (fun c9 => ?_)
      · have h := h.1 c9
        refine lv_aload_n hx hb dX11_turn_34 rfl (lv_at hl 0 rfl) ?_
        refine va_get (D := D) (ci := 10) (v := .ref (ad 4)) (C := RX11) (T := TX11) (N := 35) hx hb hts inlX11 hown hK hP 0 rfl rfl 5 (by decide) (hts _ w_5_9) (fun _ h9 => h9) rfl dX11_turn_35 ?_
        refine lv_iload_n hx hb dX11_turn_38 rfl (lv_at hl 1 rfl) ?_
        refine va_iald (f := gA t8 5) (n := 62) hx hb hK hP 4 0 rfl rfl h.1 dX11_turn_39 ?_
        have h := h.2
        refine lv_bipush (v := 100) hx hb dX11_turn_40 (by decide) ?_
        refine lv_iadd hx hb dX11_turn_42 ?_
        exact hret _ _ _ _ _ _ rfl h hP hD hS dX11_turn_43
      · have h := h.2 c9
        refine lv_aload_n hx hb dX11_turn_25 rfl (lv_at hl 0 rfl) ?_
        refine va_get (D := D) (ci := 10) (v := .ref (ad 3)) (C := RX11) (T := TX11) (N := 35) hx hb hts inlX11 hown hK hP 0 rfl rfl 4 (by decide) (hts _ w_5_8) (fun _ h9 => h9) rfl dX11_turn_26 ?_
        refine lv_iload_n hx hb dX11_turn_29 rfl (lv_at hl 1 rfl) ?_
        refine va_iald (f := gA t8 4) (n := 62) hx hb hK hP 3 0 rfl rfl h.1 dX11_turn_30 ?_
        have h := h.2
        refine lv_goto (tgt := 43) hx hb dX11_turn_31 (by decide) ?_
        exact hret _ _ _ _ _ _ rfl h hP hD hS dX11_turn_43
    · have h := h.2 c6
      refine lv_bipush (v := (-2)) hx hb dX11_turn_14 (by decide) ?_
      exact hret _ _ _ _ _ _ rfl h hP hD hS dX11_turn_16
-- X11_sit
def rm_X11_sit : Room := { frames := 2, cells := 0, slots := 0, locals := 45 }
abbrev ws_X11_sit : List Cond := .code yX11_sit cX11_sit 3 (some .int) :: wsL_law
theorem cw_RX11_129 {R : Room} {s : State} {args : Array Value} (hts : ∀ w ∈ wsL_law, w.before args s = true) (hR : rm_X11_isWay.frames + 1 ≤ R.frames ∧ 8 + (1 + 11) + rm_X11_isWay.locals ≤ R.locals) : CallB R s args RX11 129 yX11_isWay cX11_isWay 1 (some .boolean) ws_X11_isWay rm_X11_isWay rm_X11_isWay.cells rm_X11_isWay.slots 1 ∧ (Cond.static yX11_isWay).before args s = true := va_cwS 1 hts (gdS w_14_5 w_14_6 w_1_5 w_14_7) rfl rfl rfl (by decide +kernel) hR
theorem cw_RX11_135 {R : Room} {s : State} {args : Array Value} (hts : ∀ w ∈ wsL_law, w.before args s = true) (hR : rm_X11_turnPoint.frames + 1 ≤ R.frames ∧ 8 + (8 + 11) + rm_X11_turnPoint.locals ≤ R.locals) : CallW R s args RX11 RX11 135 yX11_turnPoint cX11_turnPoint 8 none ws_X11_turnPoint rm_X11_turnPoint rm_X11_turnPoint.cells rm_X11_turnPoint.slots 3 := cwV 3 hts (gdV w_14_9 w_14_10 w_14_11 w_1_5 w_14_12) rfl rfl rfl (by decide +kernel) hR
def wp_X11_sit (st : St) (a1 : Int32) (a2 : Int32) (post : Int32 → St → Prop) : Prop := wp_X11_in a1.toInt64 0 1000 (fun r1 => ((r1 = 0) → (post (-2) st)) ∧ ((¬ r1 = 0) → (wp_X11_isWay a2 (fun r4 => ((¬ r4 = 0) → (((¬ gI st 14 = 8) → (wp_X11_turnPoint st a1 0 a2 (fun t9 => ∀ x10 : Int32, x10 = gI t9 1 → (vp_in (gI t9 14) 8 ∧ (∀ x12 : Int32, x12 = gI t9 2 → (vp_in (gI t9 14) 8 ∧ (∀ x14 : Int32, x14 = (gI t9 14 + 1) → (post (x14 - 1) (sI (sA (sA t9 12 (upd (gA t9 12) (gI t9 14).toNatClampNeg x10)) 13 (upd (gA t9 13) (gI t9 14).toNatClampNeg x12)) 14 x14))))))))) ∧ ((gI st 14 = 8) → (post (-4) st)))) ∧ ((r4 = 0) → (post (-2) st))))))
set_option maxHeartbeats 4000000 in
set_option maxRecDepth 100000 in
theorem c_X11_sit (l : Launch) (D : va_G) (cy : Nat → ClassId) (tz : Nat → Nat) (ad : Nat → Nat) (st : St) (a1 : Int32) (a2 : Int32) (post : Int32 → St → Prop) (h : wp_X11_sit st a1 a2 post) : CtI l D cy tz yX11_sit ws_X11_sit rm_X11_sit [.ref (ad 0), .int a1, .int a2] (wM cy ad st) (wM cy ad) post := by
  refine CtI.of (own := RX11) (nm := "sit") (lv := [(0, .ref (ad 0)), (1, .int a1), (2, .int a2)]) (plainFor_of_name (by decide)) rfl rfl (Nat.le_of_ble_eq_true rfl) rfl ?_
  intro p e s m args below meth c A Q ls B hP hD hS hl hret
  obtain ⟨hx, hb, hml, hown, hts, hK, hZ, hA, hnm⟩ := B
  have SF : CallFix p m c cX11_sit 3 s args wsL_law RX11 := ⟨hx, hb, hml, hown, hts⟩
  unfold wp_X11_sit at h
  refine lv_iload_n hx hb dX11_sit_0 rfl (lv_at hl 1 rfl) ?_
  refine lv_i2l (v := a1.toInt64) hx hb dX11_sit_1 rfl ?_
  refine lv_lconst (v := 0) hx hb dX11_sit_2 (by decide) ?_
  refine lv_ldc2 (v := 1000) hx hb hown (hts _ w_14_1) dX11_sit_3 ?_
  refine callSIr (rest := []) SF (c_X11_in l D cy tz _ a1.toInt64 0 1000 _ h) (cw_RX11_67 hts ⟨Nat.le_of_ble_eq_true rfl, Nat.le_of_ble_eq_true rfl⟩) rfl rfl hK hZ hA hP hD hS rfl hl.1 rfl (Nat.le_of_ble_eq_true rfl) dX11_sit_6 ⟨Nat.zero_le _, Nat.zero_le _⟩ (fun r1 H locs h hP hD hS => ?_)
  refine lv_if_eq (tgt := 19) hx hb dX11_sit_9 (by decide) (fun c3 => ?_) (fun c3 => ?_)
  · have h := h.1 c3
    refine lv_bipush (v := (-2)) hx hb dX11_sit_19 (by decide) ?_
    exact hret _ _ _ _ _ _ rfl h hP hD hS dX11_sit_21
  · have h := h.2 c3
    refine lv_iload_n hx hb dX11_sit_12 rfl (lv_at hl 2 rfl) ?_
    refine callSIr (rest := []) SF (c_X11_isWay l D cy tz _ a2 _ h) (cw_RX11_129 hts ⟨Nat.le_of_ble_eq_true rfl, Nat.le_of_ble_eq_true rfl⟩) rfl rfl hK hZ hA hP hD hS rfl hl.1 rfl (Nat.le_of_ble_eq_true rfl) dX11_sit_13 ⟨Nat.zero_le _, Nat.zero_le _⟩ (fun r4 H locs h hP hD hS => ?_)
    refine lv_if_ne (tgt := 22) hx hb dX11_sit_16 (by decide) (fun c6 => ?_) (fun c6 => ?_)
    · have h := h.1 c6
      refine lv_aload_n hx hb dX11_sit_22 rfl (lv_at hl 0 rfl) ?_
      refine va_get (D := D) (ci := 10) (v := .int (gI st 14)) (C := RX11) (T := TX11) (N := 35) hx hb hts inlX11 hown hK hP 0 rfl rfl 14 (by decide) (hts _ w_14_2) (fun _ h9 => h9) rfl dX11_sit_23 ?_
      refine lv_bipush (v := 8) hx hb dX11_sit_26 (by decide) ?_
      refine lv_icmp_ne (tgt := 34) hx hb dX11_sit_28 (by decide) (fun c7 => ?_) (fun c7 => ?_)
      · have h := h.1 c7
        refine lv_aload_n hx hb dX11_sit_34 rfl (lv_at hl 0 rfl) ?_
        refine lv_iload_n hx hb dX11_sit_35 rfl (lv_at hl 1 rfl) ?_
        refine lv_iconst (v := 0) hx hb dX11_sit_36 (by decide) ?_
        refine lv_iload_n hx hb dX11_sit_37 rfl (lv_at hl 2 rfl) ?_
        refine callVV (rest := []) SF (c_X11_turnPoint l D cy tz ad st a1 0 a2 _ h) (cw_RX11_135 hts ⟨Nat.le_of_ble_eq_true rfl, Nat.le_of_ble_eq_true rfl⟩) rfl rfl (va_recv hK hP (ci := 10) (q0 := 0) rfl rfl) hK hZ hA hP hD hS rfl hl.1 rfl (Nat.le_of_ble_eq_true rfl) dX11_sit_38 ⟨Nat.zero_le _, Nat.zero_le _⟩ (fun t9 H locs h hP hD hS => ?_)
        refine lv_aload_n hx hb dX11_sit_41 rfl (lv_at hl 0 rfl) ?_
        refine va_get (D := D) (ci := 10) (v := .ref (ad 8)) (C := RX11) (T := TX11) (N := 35) hx hb hts inlX11 hown hK hP 0 rfl rfl 12 (by decide) (hts _ w_5_13) (fun _ h9 => h9) rfl dX11_sit_42 ?_
        refine lv_aload_n hx hb dX11_sit_45 rfl (lv_at hl 0 rfl) ?_
        refine va_get (D := D) (ci := 10) (v := .int (gI t9 14)) (C := RX11) (T := TX11) (N := 35) hx hb hts inlX11 hown hK hP 0 rfl rfl 14 (by decide) (hts _ w_14_2) (fun _ h9 => h9) rfl dX11_sit_46 ?_
        refine lv_aload_n hx hb dX11_sit_49 rfl (lv_at hl 0 rfl) ?_
        refine va_get (D := D) (ci := 10) (v := .int (gI t9 1)) (C := RX11) (T := TX11) (N := 35) hx hb hts inlX11 hown hK hP 0 rfl rfl 1 (by decide) (hts _ w_14_3) (fun _ h9 => h9) rfl dX11_sit_50 ?_
        refine lv_topi (fun x10 e11 => ?_)
        have h := h x10 e11
        refine va_iast (f := gA t9 12) (n := 8) hx hb hK hP hD hS 8 0 rfl rfl h.1 dX11_sit_53 (fun H locs hP hD hS => ?_)
        have h := h.2
        have hP : va_P D vwCl (wM cy ad (sA t9 12 (upd (gA t9 12) (gI t9 14).toNatClampNeg x10))) H := hP
        have hD : va_D A (wM cy ad (sA t9 12 (upd (gA t9 12) (gI t9 14).toNatClampNeg x10))) := hD
        refine lv_aload_n hx hb dX11_sit_54 rfl (lv_at hl 0 rfl) ?_
        refine va_get (D := D) (ci := 10) (v := .ref (ad 9)) (C := RX11) (T := TX11) (N := 35) hx hb hts inlX11 hown hK hP 0 rfl rfl 13 (by decide) (hts _ w_5_14) (fun _ h9 => h9) rfl dX11_sit_55 ?_
        refine lv_aload_n hx hb dX11_sit_58 rfl (lv_at hl 0 rfl) ?_
        refine va_get (D := D) (ci := 10) (v := .int (gI t9 14)) (C := RX11) (T := TX11) (N := 35) hx hb hts inlX11 hown hK hP 0 rfl rfl 14 (by decide) (hts _ w_14_2) (fun _ h9 => h9) rfl dX11_sit_59 ?_
        refine lv_aload_n hx hb dX11_sit_62 rfl (lv_at hl 0 rfl) ?_
        refine va_get (D := D) (ci := 10) (v := .int (gI t9 2)) (C := RX11) (T := TX11) (N := 35) hx hb hts inlX11 hown hK hP 0 rfl rfl 2 (by decide) (hts _ w_14_4) (fun _ h9 => h9) rfl dX11_sit_63 ?_
        refine lv_topi (fun x12 e13 => ?_)
        have h := h x12 e13
        refine va_iast (f := gA t9 13) (n := 8) hx hb hK hP hD hS 9 0 rfl rfl h.1 dX11_sit_66 (fun H locs hP hD hS => ?_)
        have h := h.2
        have hP : va_P D vwCl (wM cy ad (sA (sA t9 12 (upd (gA t9 12) (gI t9 14).toNatClampNeg x10)) 13 (upd (gA t9 13) (gI t9 14).toNatClampNeg x12))) H := hP
        have hD : va_D A (wM cy ad (sA (sA t9 12 (upd (gA t9 12) (gI t9 14).toNatClampNeg x10)) 13 (upd (gA t9 13) (gI t9 14).toNatClampNeg x12))) := hD
        refine lv_aload_n hx hb dX11_sit_67 rfl (lv_at hl 0 rfl) ?_
        refine lv_dup hx hb dX11_sit_68 rfl ?_
        refine va_get (D := D) (ci := 10) (v := .int (gI t9 14)) (C := RX11) (T := TX11) (N := 35) hx hb hts inlX11 hown hK hP 0 rfl rfl 14 (by decide) (hts _ w_14_2) (fun _ h9 => h9) rfl dX11_sit_69 ?_
        refine lv_iconst (v := 1) hx hb dX11_sit_72 (by decide) ?_
        refine lv_iadd hx hb dX11_sit_73 ?_
        refine lv_topi (fun x14 e15 => ?_)
        have h := h x14 e15
        refine va_put (D := D) (ci := 10) (v := .int x14) (ty := .int) (C := RX11) (T := TX11) (N := 35) hx hb hts inlX11 tyX11 tyX11_ok nmX11 hown hK hP hD hS 0 rfl rfl 14 (by decide) (hts _ w_14_2) (fun _ h9 => h9) rfl (by decide +kernel) rfl rfl (Nat.le_of_ble_eq_true rfl) dX11_sit_74 (fun H locs hP hD hS => ?_)
        have hP : va_P D vwCl (wM cy ad (sI (sA (sA t9 12 (upd (gA t9 12) (gI t9 14).toNatClampNeg x10)) 13 (upd (gA t9 13) (gI t9 14).toNatClampNeg x12)) 14 x14)) H := hP
        have hD : va_D A (wM cy ad (sI (sA (sA t9 12 (upd (gA t9 12) (gI t9 14).toNatClampNeg x10)) 13 (upd (gA t9 13) (gI t9 14).toNatClampNeg x12)) 14 x14)) := hD
        refine lv_aload_n hx hb dX11_sit_77 rfl (lv_at hl 0 rfl) ?_
        refine va_get (D := D) (ci := 10) (v := .int x14) (C := RX11) (T := TX11) (N := 35) hx hb hts inlX11 hown hK hP 0 rfl rfl 14 (by decide) (hts _ w_14_2) (fun _ h9 => h9) rfl dX11_sit_78 ?_
        refine lv_iconst (v := 1) hx hb dX11_sit_81 (by decide) ?_
        refine lv_isub hx hb dX11_sit_82 ?_
        exact hret _ _ _ _ _ _ rfl h hP hD hS dX11_sit_83
      · have h := h.2 c7
        refine lv_bipush (v := (-4)) hx hb dX11_sit_31 (by decide) ?_
        exact hret _ _ _ _ _ _ rfl h hP hD hS dX11_sit_33
    · have h := h.2 c6
      refine lv_bipush (v := (-2)) hx hb dX11_sit_19 (by decide) ?_
      exact hret _ _ _ _ _ _ rfl h hP hD hS dX11_sit_21
-- X11_isOne
def rm_X11_isOne : Room := { frames := 1, cells := 0, slots := 0, locals := 25 }
abbrev ws_X11_isOne : List Cond := .code yX11_isOne cX11_isOne 2 (some .boolean) :: wsL_law
def wp_X11_isOne (st : St) (a1 : Int32) (post : Int32 → Prop) : Prop := wp_X11_in a1.toInt64 0 ((gI st 14 - 1).toInt64) (fun r1 => r1 &&& 1 = r1 ∧ post r1)
set_option maxHeartbeats 4000000 in
set_option maxRecDepth 100000 in
theorem c_X11_isOne (l : Launch) (D : va_G) (cy : Nat → ClassId) (tz : Nat → Nat) (ad : Nat → Nat) (st : St) (a1 : Int32) (post : Int32 → Prop) (h : wp_X11_isOne st a1 post) : CtI l D cy tz yX11_isOne ws_X11_isOne rm_X11_isOne [.ref (ad 0), .int a1] (wM cy ad st) (fun _ : Unit => wM cy ad st) (fun r _ => post r) := by
  refine CtI.of (own := RX11) (nm := "isOne") (lv := [(0, .ref (ad 0)), (1, .int a1)]) (plainFor_of_name (by decide)) rfl rfl (Nat.le_of_ble_eq_true rfl) rfl ?_
  intro p e s m args below meth c A Q ls B hP hD hS hl hret
  obtain ⟨hx, hb, hml, hown, hts, hK, hZ, hA, hnm⟩ := B
  have SF : CallFix p m c cX11_isOne 2 s args wsL_law RX11 := ⟨hx, hb, hml, hown, hts⟩
  unfold wp_X11_isOne at h
  refine lv_iload_n hx hb dX11_isOne_0 rfl (lv_at hl 1 rfl) ?_
  refine lv_i2l (v := a1.toInt64) hx hb dX11_isOne_1 rfl ?_
  refine lv_lconst (v := 0) hx hb dX11_isOne_2 (by decide) ?_
  refine lv_aload_n hx hb dX11_isOne_3 rfl (lv_at hl 0 rfl) ?_
  refine va_get (D := D) (ci := 10) (v := .int (gI st 14)) (C := RX11) (T := TX11) (N := 35) hx hb hts inlX11 hown hK hP 0 rfl rfl 14 (by decide) (hts _ w_14_2) (fun _ h9 => h9) rfl dX11_isOne_4 ?_
  refine lv_iconst (v := 1) hx hb dX11_isOne_7 (by decide) ?_
  refine lv_isub hx hb dX11_isOne_8 ?_
  refine lv_i2l (v := (gI st 14 - 1).toInt64) hx hb dX11_isOne_9 rfl ?_
  refine callSIr (rest := []) SF (c_X11_in l D cy tz _ a1.toInt64 0 ((gI st 14 - 1).toInt64) _ h) (cw_RX11_67 hts ⟨Nat.le_of_ble_eq_true rfl, Nat.le_of_ble_eq_true rfl⟩) rfl rfl hK hZ hA hP hD hS rfl hl.1 rfl (Nat.le_of_ble_eq_true rfl) dX11_isOne_10 ⟨Nat.zero_le _, Nat.zero_le _⟩ (fun r1 H locs h hP hD hS => ?_)
  exact hret _ () _ _ _ _ (narrow_b h.1) h.2 hP hD hS dX11_isOne_13
-- X11_layOne
def rm_X11_layOne : Room := { frames := 1, cells := 0, slots := 0, locals := 27 }
abbrev ws_X11_layOne : List Cond := .code yX11_layOne cX11_layOne 3 none :: wsL_law
theorem cw_RX11_139 {R : Room} {s : State} {args : Array Value} (hts : ∀ w ∈ wsL_law, w.before args s = true) (hR : rm_X11_wayAt.frames + 1 ≤ R.frames ∧ 8 + (2 + 11) + rm_X11_wayAt.locals ≤ R.locals) : CallW R s args RX11 RX11 139 yX11_wayAt cX11_wayAt 2 (some .int) ws_X11_wayAt rm_X11_wayAt rm_X11_wayAt.cells rm_X11_wayAt.slots 1 := cwV 1 hts (gdV w_16_2 w_16_3 w_16_4 w_1_5 w_16_5) rfl rfl rfl (by decide +kernel) hR
def wp_X11_layOne (st : St) (a1 : Int32) (a2 : Int32) (post : St → Prop) : Prop := vp_in a1 8 ∧ (vp_in a1 8 ∧ (wp_X11_wayAt st a2 (fun r1 => wp_X11_turnPoint st (gA st 12 a1.toNatClampNeg) (gA st 13 a1.toNatClampNeg) r1 (fun t4 => post t4))))
set_option maxHeartbeats 4000000 in
set_option maxRecDepth 100000 in
theorem c_X11_layOne (l : Launch) (D : va_G) (cy : Nat → ClassId) (tz : Nat → Nat) (ad : Nat → Nat) (st : St) (a1 : Int32) (a2 : Int32) (post : St → Prop) (h : wp_X11_layOne st a1 a2 post) : CtV l D cy tz yX11_layOne ws_X11_layOne rm_X11_layOne [.ref (ad 0), .int a1, .int a2] (wM cy ad st) (wM cy ad) post := by
  refine CtV.of (own := RX11) (nm := "layOne") (lv := [(0, .ref (ad 0)), (1, .int a1), (2, .int a2)]) (plainFor_of_name (by decide)) rfl rfl (Nat.le_of_ble_eq_true rfl) rfl ?_
  intro p e s m args below meth c A Q ls B hP hD hS hl hret
  obtain ⟨hx, hb, hml, hown, hts, hK, hZ, hA, hnm⟩ := B
  have SF : CallFix p m c cX11_layOne 3 s args wsL_law RX11 := ⟨hx, hb, hml, hown, hts⟩
  unfold wp_X11_layOne at h
  refine lv_aload_n hx hb dX11_layOne_0 rfl (lv_at hl 0 rfl) ?_
  refine lv_aload_n hx hb dX11_layOne_1 rfl (lv_at hl 0 rfl) ?_
  refine va_get (D := D) (ci := 10) (v := .ref (ad 8)) (C := RX11) (T := TX11) (N := 35) hx hb hts inlX11 hown hK hP 0 rfl rfl 12 (by decide) (hts _ w_5_13) (fun _ h9 => h9) rfl dX11_layOne_2 ?_
  refine lv_iload_n hx hb dX11_layOne_5 rfl (lv_at hl 1 rfl) ?_
  refine va_iald (f := gA st 12) (n := 8) hx hb hK hP 8 0 rfl rfl h.1 dX11_layOne_6 ?_
  have h := h.2
  refine lv_aload_n hx hb dX11_layOne_7 rfl (lv_at hl 0 rfl) ?_
  refine va_get (D := D) (ci := 10) (v := .ref (ad 9)) (C := RX11) (T := TX11) (N := 35) hx hb hts inlX11 hown hK hP 0 rfl rfl 13 (by decide) (hts _ w_5_14) (fun _ h9 => h9) rfl dX11_layOne_8 ?_
  refine lv_iload_n hx hb dX11_layOne_11 rfl (lv_at hl 1 rfl) ?_
  refine va_iald (f := gA st 13) (n := 8) hx hb hK hP 9 0 rfl rfl h.1 dX11_layOne_12 ?_
  have h := h.2
  refine lv_aload_n hx hb dX11_layOne_13 rfl (lv_at hl 0 rfl) ?_
  refine lv_iload_n hx hb dX11_layOne_14 rfl (lv_at hl 2 rfl) ?_
  refine callVIr (rest := [.int (gA st 13 a1.toNatClampNeg), .int (gA st 12 a1.toNatClampNeg), .ref (ad 0)]) SF (c_X11_wayAt l D cy tz ad st a2 _ h) (cw_RX11_139 hts ⟨Nat.le_of_ble_eq_true rfl, Nat.le_of_ble_eq_true rfl⟩) rfl rfl (va_recv hK hP (ci := 10) (q0 := 0) rfl rfl) hK hZ hA hP hD hS rfl hl.1 rfl (Nat.le_of_ble_eq_true rfl) dX11_layOne_15 ⟨Nat.zero_le _, Nat.zero_le _⟩ (fun r1 H locs h hP hD hS => ?_)
  refine callVV (rest := []) SF (c_X11_turnPoint l D cy tz ad st (gA st 12 a1.toNatClampNeg) (gA st 13 a1.toNatClampNeg) r1 _ h) (cw_RX11_135 hts ⟨Nat.le_of_ble_eq_true rfl, Nat.le_of_ble_eq_true rfl⟩) rfl rfl (va_recv hK hP (ci := 10) (q0 := 0) rfl rfl) hK hZ hA hP hD hS rfl hl.1 rfl (Nat.le_of_ble_eq_true rfl) dX11_layOne_18 ⟨Nat.zero_le _, Nat.zero_le _⟩ (fun t4 H locs h hP hD hS => ?_)
  exact hret _ _ _ _ _ h hP hD hS dX11_layOne_21
