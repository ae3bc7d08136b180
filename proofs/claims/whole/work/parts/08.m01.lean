-- X1_findSafe
def rm_X1_findSafe : Room := { frames := 3, cells := 0, slots := 0, locals := 68 }
abbrev ws_X1_findSafe : List Cond := .code yX1_findSafe cX1_findSafe 3 none :: wsL_law
theorem cw_RX1_45 {R : Room} {s : State} {args : Array Value} (hts : ∀ w ∈ wsL_law, w.before args s = true) (hR : rm_X1_neighbours.frames + 1 ≤ R.frames ∧ 8 + (5 + 11) + rm_X1_neighbours.locals ≤ R.locals) : CallW R s args RX1 RX1 45 yX1_neighbours cX1_neighbours 5 (some .int) ws_X1_neighbours rm_X1_neighbours rm_X1_neighbours.cells rm_X1_neighbours.slots 2 := cwV 2 hts (gdV w_22_11 w_22_12 w_22_13 w_2_11 w_22_14) rfl rfl rfl (by decide +kernel) hR
def wp_X1_findSafe_L28 (post : St → Prop) (K : St → Prop) (v1 : Int32) : Nat → St → Int32 → Prop
  | 0, _, _ => False
  | n28 + 1, t5, v4 => ((24 ≤ v4) → (K t5)) ∧ ((¬ 24 ≤ v4) → (wp_X1_bit t5 v1 v4 (fun r7 => ((¬ r7 = 1) → (∀ x10 : Int32, x10 = v4 + 1 → (wp_X1_findSafe_L28 post K v1 n28 t5 x10))) ∧ ((r7 = 1) → (wp_X1_neighbours t5 v1 v4 (fun r12 => ((r12 ≤ gI t5 7) → (∀ x15 : Int32, x15 = v4 + 1 → (wp_X1_findSafe_L28 post K v1 n28 t5 x15))) ∧ ((¬ r12 ≤ gI t5 7) → (wp_X1_neighbours (sI (sI t5 5 v1) 6 v4) v1 v4 (fun r17 => ∀ x19 : Int32, x19 = v4 + 1 → (wp_X1_findSafe_L28 post K v1 n28 (sI (sI (sI t5 5 v1) 6 v4) 7 r17) x19))))))))))
def wp_X1_findSafe_L20 (post : St → Prop) (K : St → Prop) : Nat → St → Int32 → Prop
  | 0, _, _ => False
  | n20 + 1, t2, v1 => ((60 < v1) → (K t2)) ∧ ((¬ 60 < v1) → (∃ m28 : Nat, wp_X1_findSafe_L28 post (fun t21 => ∀ x22 : Int32, x22 = v1 + 1 → (wp_X1_findSafe_L20 post K n20 t21 x22)) v1 m28 t2 0))
def wp_X1_findSafe (st : St) (post : St → Prop) : Prop := ∃ m20 : Nat, wp_X1_findSafe_L20 post (fun t24 => post t24) m20 (sI (sI (sI st 5 (-6)) 6 (-6)) 7 (-6)) 1
set_option maxHeartbeats 4000000 in
set_option maxRecDepth 100000 in
theorem c_X1_findSafe (l : Launch) (D : va_G) (cy : Nat → ClassId) (tz : Nat → Nat) (ad : Nat → Nat) (st : St) (post : St → Prop) (h : wp_X1_findSafe st post) : CtV l D cy tz yX1_findSafe ws_X1_findSafe rm_X1_findSafe [.ref (ad 20)] (wX cy ad st) (wX cy ad) post := by
  refine CtV.of (own := RX1) (nm := "findSafe") (lv := [(0, .ref (ad 20))]) (plainFor_of_name (by decide)) rfl rfl (Nat.le_of_ble_eq_true rfl) rfl ?_
  intro p e s m args below meth c A Q ls B hP hD hS hl hret
  obtain ⟨hx, hb, hml, hown, hts, hK, hZ, hA, hnm⟩ := B
  have SF : CallFix p m c cX1_findSafe 3 s args wsL_law RX1 := ⟨hx, hb, hml, hown, hts⟩
  unfold wp_X1_findSafe at h
  refine lv_aload_n hx hb dX1_findSafe_0 rfl (lv_at hl 0 rfl) ?_
  refine lv_bipush (v := (-6)) hx hb dX1_findSafe_1 (by decide) ?_
  refine va_put (D := D) (ci := 1) (v := .int (-6)) (ty := .int) (C := RX1) (T := TX1) (N := 4) hx hb hts inlX1 tyX1 tyX1_ok nmX1 hown hK hP hD hS 20 rfl rfl 1 (by decide) (hts _ w_22_3) (fun _ h9 => h9) rfl (by decide +kernel) rfl rfl (Nat.le_of_ble_eq_true rfl) dX1_findSafe_3 (fun H locs hP hD hS => ?_)
  have hP : va_P D vwCl (wX cy ad (sI st 5 (-6))) H := hP
  have hD : va_D A (wX cy ad (sI st 5 (-6))) := hD
  refine lv_aload_n hx hb dX1_findSafe_6 rfl (lv_at hl 0 rfl) ?_
  refine lv_bipush (v := (-6)) hx hb dX1_findSafe_7 (by decide) ?_
  refine va_put (D := D) (ci := 1) (v := .int (-6)) (ty := .int) (C := RX1) (T := TX1) (N := 4) hx hb hts inlX1 tyX1 tyX1_ok nmX1 hown hK hP hD hS 20 rfl rfl 2 (by decide) (hts _ w_22_4) (fun _ h9 => h9) rfl (by decide +kernel) rfl rfl (Nat.le_of_ble_eq_true rfl) dX1_findSafe_9 (fun H locs hP hD hS => ?_)
  have hP : va_P D vwCl (wX cy ad (sI (sI st 5 (-6)) 6 (-6))) H := hP
  have hD : va_D A (wX cy ad (sI (sI st 5 (-6)) 6 (-6))) := hD
  refine lv_aload_n hx hb dX1_findSafe_12 rfl (lv_at hl 0 rfl) ?_
  refine lv_bipush (v := (-6)) hx hb dX1_findSafe_13 (by decide) ?_
  refine va_put (D := D) (ci := 1) (v := .int (-6)) (ty := .int) (C := RX1) (T := TX1) (N := 4) hx hb hts inlX1 tyX1 tyX1_ok nmX1 hown hK hP hD hS 20 rfl rfl 3 (by decide) (hts _ w_22_5) (fun _ h9 => h9) rfl (by decide +kernel) rfl rfl (Nat.le_of_ble_eq_true rfl) dX1_findSafe_15 (fun H locs hP hD hS => ?_)
  have hP : va_P D vwCl (wX cy ad (sI (sI (sI st 5 (-6)) 6 (-6)) 7 (-6))) H := hP
  have hD : va_D A (wX cy ad (sI (sI (sI st 5 (-6)) 6 (-6)) 7 (-6))) := hD
  refine lv_iconst (v := 1) hx hb dX1_findSafe_18 (by decide) ?_
  refine lv_istore_n (lv' := [(1, .int 1), (0, .ref (ad 20))]) hx hb dX1_findSafe_19 rfl hl (by decide) rfl (fun ls hl => ?_)
  have loop20 : ∀ (K : St → Prop), (∀ (t24 : St) (H : Heap) (locs : List Loc) (ls : Array Slot), K t24 → va_P D vwCl (wX cy ad t24) H → va_D A (wX cy ad t24) → va_S A s.heap H locs → lv_has ls 3 [] → W p l e rm_X1_findSafe s m args below meth c H locs 0 0 Q (F0 m 89 ls [])) → ∀ (n : Nat) (t2 : St) (v1 : Int32) (H : Heap) (locs : List Loc) (ls : Array Slot), wp_X1_findSafe_L20 post K n t2 v1 → va_P D vwCl (wX cy ad t2) H → va_D A (wX cy ad t2) → va_S A s.heap H locs → lv_has ls 3 [(0, .ref (ad 20)), (1, .int v1)] → W p l e rm_X1_findSafe s m args below meth c H locs 0 0 Q (F0 m 20 ls []) := by
    intro K hE20 n
    induction n with
    | zero => intro t2 v1 H locs ls h; exact h.elim
    | succ n ih20 =>
      intro t2 v1 H locs ls h hP hD hS hl
      rw [wp_X1_findSafe_L20] at h
      refine lv_iload_n hx hb dX1_findSafe_20 rfl (lv_at hl 1 rfl) ?_
      refine lv_bipush (v := 60) hx hb dX1_findSafe_21 (by decide) ?_
      refine lv_icmp_gt (tgt := 89) hx hb dX1_findSafe_23 (by decide) (fun c3 => ?_) (fun c3 => ?_)
      · have h := h.1 c3
        exact hE20 _ _ _ _ h hP hD hS (lv_sub hl [] rfl)
      · have h := h.2 c3
        refine lv_iconst (v := 0) hx hb dX1_findSafe_26 (by decide) ?_
        refine lv_istore_n (lv' := [(2, .int 0), (0, .ref (ad 20)), (1, .int v1)]) hx hb dX1_findSafe_27 rfl hl (by decide) rfl (fun ls hl => ?_)
        have loop28 : ∀ (K : St → Prop), (∀ (t21 : St) (H : Heap) (locs : List Loc) (ls : Array Slot), K t21 → va_P D vwCl (wX cy ad t21) H → va_D A (wX cy ad t21) → va_S A s.heap H locs → lv_has ls 3 [(0, .ref (ad 20)), (1, .int v1)] → W p l e rm_X1_findSafe s m args below meth c H locs 0 0 Q (F0 m 83 ls [])) → ∀ (n : Nat) (t5 : St) (v4 : Int32) (H : Heap) (locs : List Loc) (ls : Array Slot), wp_X1_findSafe_L28 post K v1 n t5 v4 → va_P D vwCl (wX cy ad t5) H → va_D A (wX cy ad t5) → va_S A s.heap H locs → lv_has ls 3 [(0, .ref (ad 20)), (1, .int v1), (2, .int v4)] → W p l e rm_X1_findSafe s m args below meth c H locs 0 0 Q (F0 m 28 ls []) := by
          intro K hE28 n
          induction n with
          | zero => intro t5 v4 H locs ls h; exact h.elim
          | succ n ih28 =>
            intro t5 v4 H locs ls h hP hD hS hl
            rw [wp_X1_findSafe_L28] at h
            refine lv_iload_n hx hb dX1_findSafe_28 rfl (lv_at hl 2 rfl) ?_
            refine lv_bipush (v := 24) hx hb dX1_findSafe_29 (by decide) ?_
            refine lv_icmp_ge (tgt := 83) hx hb dX1_findSafe_31 (by decide) (fun c6 => ?_) (fun c6 => ?_)
            · have h := h.1 c6
              exact hE28 _ _ _ _ h hP hD hS (lv_sub hl [0, 1] rfl)
            · have h := h.2 c6
              refine lv_aload_n hx hb dX1_findSafe_34 rfl (lv_at hl 0 rfl) ?_
              refine lv_iload_n hx hb dX1_findSafe_35 rfl (lv_at hl 1 rfl) ?_
              refine lv_iload_n hx hb dX1_findSafe_36 rfl (lv_at hl 2 rfl) ?_
              refine callVIr (rest := []) SF (c_X1_bit l D cy tz ad t5 v1 v4 _ h) (cw_RX1_41 hts ⟨Nat.le_of_ble_eq_true rfl, Nat.le_of_ble_eq_true rfl⟩) rfl rfl (va_recv hK hP (ci := 1) (q0 := 20) rfl rfl) hK hZ hA hP hD hS rfl hl.1 rfl (Nat.le_of_ble_eq_true rfl) dX1_findSafe_37 ⟨Nat.zero_le _, Nat.zero_le _⟩ (fun r7 H locs h hP hD hS => ?_)
              refine lv_iconst (v := 1) hx hb dX1_findSafe_40 (by decide) ?_
              refine lv_icmp_ne (tgt := 77) hx hb dX1_findSafe_41 (by decide) (fun c9 => ?_) (fun c9 => ?_)
              · have h := h.1 c9
                obtain ⟨x10, e11⟩ : ∃ z : Int32, z = v4 + 1 := ⟨_, rfl⟩
                have h := h x10 e11
                refine lv_iinc (v := x10) (lv' := [(2, .int x10), (0, .ref (ad 20)), (1, .int v1)]) hx hb dX1_findSafe_77 hl (k := 2) rfl (by rw [e11]; rfl) (by decide) rfl (fun ls hl => ?_)
                refine lv_goto (tgt := 28) hx hb dX1_findSafe_80 (by decide) ?_
                exact ih28 _ _ _ _ _ h hP hD hS (lv_sub hl [1, 2, 0] rfl)
              · have h := h.2 c9
                refine lv_aload_n hx hb dX1_findSafe_44 rfl (lv_at hl 0 rfl) ?_
                refine lv_iload_n hx hb dX1_findSafe_45 rfl (lv_at hl 1 rfl) ?_
                refine lv_iload_n hx hb dX1_findSafe_46 rfl (lv_at hl 2 rfl) ?_
                refine callVIr (rest := []) SF (c_X1_neighbours l D cy tz ad t5 v1 v4 _ h) (cw_RX1_45 hts ⟨Nat.le_of_ble_eq_true rfl, Nat.le_of_ble_eq_true rfl⟩) rfl rfl (va_recv hK hP (ci := 1) (q0 := 20) rfl rfl) hK hZ hA hP hD hS rfl hl.1 rfl (Nat.le_of_ble_eq_true rfl) dX1_findSafe_47 ⟨Nat.zero_le _, Nat.zero_le _⟩ (fun r12 H locs h hP hD hS => ?_)
                refine lv_aload_n hx hb dX1_findSafe_50 rfl (lv_at hl 0 rfl) ?_
                refine va_get (D := D) (ci := 1) (v := .int (gI t5 7)) (C := RX1) (T := TX1) (N := 4) hx hb hts inlX1 hown hK hP 20 rfl rfl 3 (by decide) (hts _ w_22_5) (fun _ h9 => h9) rfl dX1_findSafe_51 ?_
                refine lv_icmp_le (tgt := 77) hx hb dX1_findSafe_54 (by decide) (fun c14 => ?_) (fun c14 => ?_)
                · have h := h.1 c14
                  obtain ⟨x15, e16⟩ : ∃ z : Int32, z = v4 + 1 := ⟨_, rfl⟩
                  have h := h x15 e16
                  refine lv_iinc (v := x15) (lv' := [(2, .int x15), (0, .ref (ad 20)), (1, .int v1)]) hx hb dX1_findSafe_77 hl (k := 2) rfl (by rw [e16]; rfl) (by decide) rfl (fun ls hl => ?_)
                  refine lv_goto (tgt := 28) hx hb dX1_findSafe_80 (by decide) ?_
                  exact ih28 _ _ _ _ _ h hP hD hS (lv_sub hl [1, 2, 0] rfl)
                · have h := h.2 c14
                  refine lv_aload_n hx hb dX1_findSafe_57 rfl (lv_at hl 0 rfl) ?_
                  refine lv_iload_n hx hb dX1_findSafe_58 rfl (lv_at hl 1 rfl) ?_
                  refine va_put (D := D) (ci := 1) (v := .int v1) (ty := .int) (C := RX1) (T := TX1) (N := 4) hx hb hts inlX1 tyX1 tyX1_ok nmX1 hown hK hP hD hS 20 rfl rfl 1 (by decide) (hts _ w_22_3) (fun _ h9 => h9) rfl (by decide +kernel) rfl rfl (Nat.le_of_ble_eq_true rfl) dX1_findSafe_59 (fun H locs hP hD hS => ?_)
                  have hP : va_P D vwCl (wX cy ad (sI t5 5 v1)) H := hP
                  have hD : va_D A (wX cy ad (sI t5 5 v1)) := hD
                  refine lv_aload_n hx hb dX1_findSafe_62 rfl (lv_at hl 0 rfl) ?_
                  refine lv_iload_n hx hb dX1_findSafe_63 rfl (lv_at hl 2 rfl) ?_
                  refine va_put (D := D) (ci := 1) (v := .int v4) (ty := .int) (C := RX1) (T := TX1) (N := 4) hx hb hts inlX1 tyX1 tyX1_ok nmX1 hown hK hP hD hS 20 rfl rfl 2 (by decide) (hts _ w_22_4) (fun _ h9 => h9) rfl (by decide +kernel) rfl rfl (Nat.le_of_ble_eq_true rfl) dX1_findSafe_64 (fun H locs hP hD hS => ?_)
                  have hP : va_P D vwCl (wX cy ad (sI (sI t5 5 v1) 6 v4)) H := hP
                  have hD : va_D A (wX cy ad (sI (sI t5 5 v1) 6 v4)) := hD
                  refine lv_aload_n hx hb dX1_findSafe_67 rfl (lv_at hl 0 rfl) ?_
                  refine lv_aload_n hx hb dX1_findSafe_68 rfl (lv_at hl 0 rfl) ?_
                  refine lv_iload_n hx hb dX1_findSafe_69 rfl (lv_at hl 1 rfl) ?_
                  refine lv_iload_n hx hb dX1_findSafe_70 rfl (lv_at hl 2 rfl) ?_
                  refine callVIr (rest := [.ref (ad 20)]) SF (c_X1_neighbours l D cy tz ad (sI (sI t5 5 v1) 6 v4) v1 v4 _ h) (cw_RX1_45 hts ⟨Nat.le_of_ble_eq_true rfl, Nat.le_of_ble_eq_true rfl⟩) rfl rfl (va_recv hK hP (ci := 1) (q0 := 20) rfl rfl) hK hZ hA hP hD hS rfl hl.1 rfl (Nat.le_of_ble_eq_true rfl) dX1_findSafe_71 ⟨Nat.zero_le _, Nat.zero_le _⟩ (fun r17 H locs h hP hD hS => ?_)
                  refine va_put (D := D) (ci := 1) (v := .int r17) (ty := .int) (C := RX1) (T := TX1) (N := 4) hx hb hts inlX1 tyX1 tyX1_ok nmX1 hown hK hP hD hS 20 rfl rfl 3 (by decide) (hts _ w_22_5) (fun _ h9 => h9) rfl (by decide +kernel) rfl rfl (Nat.le_of_ble_eq_true rfl) dX1_findSafe_74 (fun H locs hP hD hS => ?_)
                  have hP : va_P D vwCl (wX cy ad (sI (sI (sI t5 5 v1) 6 v4) 7 r17)) H := hP
                  have hD : va_D A (wX cy ad (sI (sI (sI t5 5 v1) 6 v4) 7 r17)) := hD
                  obtain ⟨x19, e20⟩ : ∃ z : Int32, z = v4 + 1 := ⟨_, rfl⟩
                  have h := h x19 e20
                  refine lv_iinc (v := x19) (lv' := [(2, .int x19), (0, .ref (ad 20)), (1, .int v1)]) hx hb dX1_findSafe_77 hl (k := 2) rfl (by rw [e20]; rfl) (by decide) rfl (fun ls hl => ?_)
                  refine lv_goto (tgt := 28) hx hb dX1_findSafe_80 (by decide) ?_
                  exact ih28 _ _ _ _ _ h hP hD hS (lv_sub hl [1, 2, 0] rfl)
        obtain ⟨n, h⟩ := h
        refine loop28 _ ?_ n _ _ _ _ _ h hP hD hS (lv_sub hl [1, 2, 0] rfl)
        intro t21 H locs ls h hP hD hS hl
        obtain ⟨x22, e23⟩ : ∃ z : Int32, z = v1 + 1 := ⟨_, rfl⟩
        have h := h x22 e23
        refine lv_iinc (v := x22) (lv' := [(1, .int x22), (0, .ref (ad 20))]) hx hb dX1_findSafe_83 hl (k := 1) rfl (by rw [e23]; rfl) (by decide) rfl (fun ls hl => ?_)
        refine lv_goto (tgt := 20) hx hb dX1_findSafe_86 (by decide) ?_
        exact ih20 _ _ _ _ _ h hP hD hS (lv_sub hl [1, 0] rfl)
  obtain ⟨n, h⟩ := h
  refine loop20 _ ?_ n _ _ _ _ _ h hP hD hS (lv_sub hl [1, 0] rfl)
  intro t24 H locs ls h hP hD hS hl
  exact hret _ _ _ _ _ h hP hD hS dX1_findSafe_89
-- X2_add
def rm_X2_add : Room := { frames := 0, cells := 0, slots := 0, locals := 0 }
abbrev ws_X2_add : List Cond := .code yX2_add cX2_add 3 (some .boolean) :: wsL_law
def wp_X2_add (st : St) (a1 : Int32) (a2 : Int32) (post : Int32 → St → Prop) : Prop := ((gI st 4 < 24) → (vp_in (gI st 4) 24 ∧ (vp_in (gI st 4) 24 ∧ (∀ x2 : Int32, x2 = (gI st 4 + 1) → (post 1 (sI (sA (sA st 4 (upd (gA st 4) (gI st 4).toNatClampNeg a1)) 5 (upd (gA st 5) (gI st 4).toNatClampNeg a2)) 4 x2)))))) ∧ ((¬ gI st 4 < 24) → (post 0 st))
set_option maxHeartbeats 4000000 in
set_option maxRecDepth 100000 in
theorem c_X2_add (l : Launch) (D : va_G) (cy : Nat → ClassId) (tz : Nat → Nat) (ad : Nat → Nat) (st : St) (a1 : Int32) (a2 : Int32) (post : Int32 → St → Prop) (h : wp_X2_add st a1 a2 post) : CtI l D cy tz yX2_add ws_X2_add rm_X2_add [.ref (ad 8), .int a1, .int a2] (wX cy ad st) (wX cy ad) post := by
  refine CtI.of (own := RX2) (nm := "add") (lv := [(0, .ref (ad 8)), (1, .int a1), (2, .int a2)]) (plainFor_of_name (by decide)) rfl rfl (Nat.le_of_ble_eq_true rfl) rfl ?_
  intro p e s m args below meth c A Q ls B hP hD hS hl hret
  obtain ⟨hx, hb, hml, hown, hts, hK, hZ, hA, hnm⟩ := B
  have SF : CallFix p m c cX2_add 3 s args wsL_law RX2 := ⟨hx, hb, hml, hown, hts⟩
  unfold wp_X2_add at h
  refine lv_aload_n hx hb dX2_add_0 rfl (lv_at hl 0 rfl) ?_
  refine va_get (D := D) (ci := 2) (v := .int (gI st 4)) (C := RX2) (T := TX2) (N := 3) hx hb hts inlX2 hown hK hP 8 rfl rfl 2 (by decide) (hts _ w_29_11) (fun _ h9 => h9) rfl dX2_add_1 ?_
  refine lv_bipush (v := 24) hx hb dX2_add_4 (by decide) ?_
  refine lv_icmp_lt (tgt := 11) hx hb dX2_add_6 (by decide) (fun c1 => ?_) (fun c1 => ?_)
  · have h := h.1 c1
    refine lv_aload_n hx hb dX2_add_11 rfl (lv_at hl 0 rfl) ?_
    refine va_get (D := D) (ci := 2) (v := .ref (ad 9)) (C := RX2) (T := TX2) (N := 3) hx hb hts inlX2 hown hK hP 8 rfl rfl 0 (by decide) (hts _ w_4_3) (fun _ h9 => h9) rfl dX2_add_12 ?_
    refine lv_aload_n hx hb dX2_add_15 rfl (lv_at hl 0 rfl) ?_
    refine va_get (D := D) (ci := 2) (v := .int (gI st 4)) (C := RX2) (T := TX2) (N := 3) hx hb hts inlX2 hown hK hP 8 rfl rfl 2 (by decide) (hts _ w_29_11) (fun _ h9 => h9) rfl dX2_add_16 ?_
    refine lv_iload_n hx hb dX2_add_19 rfl (lv_at hl 1 rfl) ?_
    refine va_iast (f := gA st 4) (n := 24) hx hb hK hP hD hS 9 0 rfl rfl h.1 dX2_add_20 (fun H locs hP hD hS => ?_)
    have h := h.2
    have hP : va_P D vwCl (wX cy ad (sA st 4 (upd (gA st 4) (gI st 4).toNatClampNeg a1))) H := hP
    have hD : va_D A (wX cy ad (sA st 4 (upd (gA st 4) (gI st 4).toNatClampNeg a1))) := hD
    refine lv_aload_n hx hb dX2_add_21 rfl (lv_at hl 0 rfl) ?_
    refine va_get (D := D) (ci := 2) (v := .ref (ad 10)) (C := RX2) (T := TX2) (N := 3) hx hb hts inlX2 hown hK hP 8 rfl rfl 1 (by decide) (hts _ w_4_4) (fun _ h9 => h9) rfl dX2_add_22 ?_
    refine lv_aload_n hx hb dX2_add_25 rfl (lv_at hl 0 rfl) ?_
    refine va_get (D := D) (ci := 2) (v := .int (gI st 4)) (C := RX2) (T := TX2) (N := 3) hx hb hts inlX2 hown hK hP 8 rfl rfl 2 (by decide) (hts _ w_29_11) (fun _ h9 => h9) rfl dX2_add_26 ?_
    refine lv_iload_n hx hb dX2_add_29 rfl (lv_at hl 2 rfl) ?_
    refine va_iast (f := gA st 5) (n := 24) hx hb hK hP hD hS 10 0 rfl rfl h.1 dX2_add_30 (fun H locs hP hD hS => ?_)
    have h := h.2
    have hP : va_P D vwCl (wX cy ad (sA (sA st 4 (upd (gA st 4) (gI st 4).toNatClampNeg a1)) 5 (upd (gA st 5) (gI st 4).toNatClampNeg a2))) H := hP
    have hD : va_D A (wX cy ad (sA (sA st 4 (upd (gA st 4) (gI st 4).toNatClampNeg a1)) 5 (upd (gA st 5) (gI st 4).toNatClampNeg a2))) := hD
    refine lv_aload_n hx hb dX2_add_31 rfl (lv_at hl 0 rfl) ?_
    refine lv_dup hx hb dX2_add_32 rfl ?_
    refine va_get (D := D) (ci := 2) (v := .int (gI st 4)) (C := RX2) (T := TX2) (N := 3) hx hb hts inlX2 hown hK hP 8 rfl rfl 2 (by decide) (hts _ w_29_11) (fun _ h9 => h9) rfl dX2_add_33 ?_
    refine lv_iconst (v := 1) hx hb dX2_add_36 (by decide) ?_
    refine lv_iadd hx hb dX2_add_37 ?_
    refine lv_topi (fun x2 e3 => ?_)
    have h := h x2 e3
    refine va_put (D := D) (ci := 2) (v := .int x2) (ty := .int) (C := RX2) (T := TX2) (N := 3) hx hb hts inlX2 tyX2 tyX2_ok nmX2 hown hK hP hD hS 8 rfl rfl 2 (by decide) (hts _ w_29_11) (fun _ h9 => h9) rfl (by decide +kernel) rfl rfl (Nat.le_of_ble_eq_true rfl) dX2_add_38 (fun H locs hP hD hS => ?_)
    have hP : va_P D vwCl (wX cy ad (sI (sA (sA st 4 (upd (gA st 4) (gI st 4).toNatClampNeg a1)) 5 (upd (gA st 5) (gI st 4).toNatClampNeg a2)) 4 x2)) H := hP
    have hD : va_D A (wX cy ad (sI (sA (sA st 4 (upd (gA st 4) (gI st 4).toNatClampNeg a1)) 5 (upd (gA st 5) (gI st 4).toNatClampNeg a2)) 4 x2)) := hD
    refine lv_iconst (v := 1) hx hb dX2_add_41 (by decide) ?_
    exact hret _ _ _ _ _ _ rfl h hP hD hS dX2_add_42
  · have h := h.2 c1
    refine lv_iconst (v := 0) hx hb dX2_add_9 (by decide) ?_
    exact hret _ _ _ _ _ _ rfl h hP hD hS dX2_add_10
-- X2_tells
def rm_X2_tells : Room := { frames := 0, cells := 0, slots := 0, locals := 0 }
abbrev ws_X2_tells : List Cond := .code yX2_tells cX2_tells 1 (some .boolean) :: wsL_law
def wp_X2_tells (st : St) (post : Int32 → Prop) : Prop := ((gI st 4 < 3) → (post 0)) ∧ ((¬ gI st 4 < 3) → (post 1))
set_option maxHeartbeats 4000000 in
set_option maxRecDepth 100000 in
theorem c_X2_tells (l : Launch) (D : va_G) (cy : Nat → ClassId) (tz : Nat → Nat) (ad : Nat → Nat) (st : St) (post : Int32 → Prop) (h : wp_X2_tells st post) : CtI l D cy tz yX2_tells ws_X2_tells rm_X2_tells [.ref (ad 8)] (wX cy ad st) (fun _ : Unit => wX cy ad st) (fun r _ => post r) := by
  refine CtI.of (own := RX2) (nm := "tells") (lv := [(0, .ref (ad 8))]) (plainFor_of_name (by decide)) rfl rfl (Nat.le_of_ble_eq_true rfl) rfl ?_
  intro p e s m args below meth c A Q ls B hP hD hS hl hret
  obtain ⟨hx, hb, hml, hown, hts, hK, hZ, hA, hnm⟩ := B
  have SF : CallFix p m c cX2_tells 1 s args wsL_law RX2 := ⟨hx, hb, hml, hown, hts⟩
  unfold wp_X2_tells at h
  refine lv_aload_n hx hb dX2_tells_0 rfl (lv_at hl 0 rfl) ?_
  refine va_get (D := D) (ci := 2) (v := .int (gI st 4)) (C := RX2) (T := TX2) (N := 3) hx hb hts inlX2 hown hK hP 8 rfl rfl 2 (by decide) (hts _ w_29_11) (fun _ h9 => h9) rfl dX2_tells_1 ?_
  refine lv_iconst (v := 3) hx hb dX2_tells_4 (by decide) ?_
  refine lv_icmp_lt (tgt := 12) hx hb dX2_tells_5 (by decide) (fun c1 => ?_) (fun c1 => ?_)
  · have h := h.1 c1
    refine lv_iconst (v := 0) hx hb dX2_tells_12 (by decide) ?_
    exact hret _ () _ _ _ _ rfl h hP hD hS dX2_tells_13
  · have h := h.2 c1
    refine lv_iconst (v := 1) hx hb dX2_tells_8 (by decide) ?_
    refine lv_goto (tgt := 13) hx hb dX2_tells_9 (by decide) ?_
    exact hret _ () _ _ _ _ rfl h hP hD hS dX2_tells_13
-- X2_groundX
def rm_X2_groundX : Room := { frames := 3, cells := 0, slots := 0, locals := 66 }
abbrev ws_X2_groundX : List Cond := .code yX2_groundX cX2_groundX 3 (some .long) :: wsL_law
theorem cw_RX2_35 {R : Room} {s : State} {args : Array Value} (hts : ∀ w ∈ wsL_law, w.before args s = true) (hR : rm_X5_wayOf.frames + 1 ≤ R.frames ∧ 8 + (1 + 11) + rm_X5_wayOf.locals ≤ R.locals) : CallB R s args RX2 35 yX5_wayOf cX5_wayOf 1 (some .int) ws_X5_wayOf rm_X5_wayOf rm_X5_wayOf.cells rm_X5_wayOf.slots 1 ∧ (Cond.static yX5_wayOf).before args s = true := va_cwS 1 hts (gdS w_30_15 w_15_7 w_1_23 w_15_8) rfl rfl rfl (by decide +kernel) hR
theorem cw_RX2_41 {R : Room} {s : State} {args : Array Value} (hts : ∀ w ∈ wsL_law, w.before args s = true) (hR : rm_X9_turnX.frames + 1 ≤ R.frames ∧ 8 + (5 + 11) + rm_X9_turnX.locals ≤ R.locals) : CallB R s args RX2 41 yX9_turnX cX9_turnX 5 (some .long) ws_X9_turnX rm_X9_turnX rm_X9_turnX.cells rm_X9_turnX.slots 3 ∧ (Cond.static yX9_turnX).before args s = true := va_cwS 3 hts (gdS w_30_16 w_13_6 w_13_7 w_13_8) rfl rfl rfl (by decide +kernel) hR
def wp_X2_groundX (st : St) (a1 : Int32) (a2 : Int32) (post : Int64 → Prop) : Prop := vp_in a1 24 ∧ (vp_in a1 24 ∧ (wp_X5_wayOf (a1 * a2) (fun r1 => wp_X9_turnX ((gA st 4 a1.toNatClampNeg).toInt64) ((gA st 5 a1.toNatClampNeg).toInt64) r1 (fun r3 => post r3))))
set_option maxHeartbeats 4000000 in
set_option maxRecDepth 100000 in
theorem c_X2_groundX (l : Launch) (D : va_G) (cy : Nat → ClassId) (tz : Nat → Nat) (ad : Nat → Nat) (st : St) (a1 : Int32) (a2 : Int32) (post : Int64 → Prop) (h : wp_X2_groundX st a1 a2 post) : CtL l D cy tz yX2_groundX ws_X2_groundX rm_X2_groundX [.ref (ad 8), .int a1, .int a2] (wX cy ad st) (fun _ : Unit => wX cy ad st) (fun r _ => post r) := by
  refine CtL.of (own := RX2) (nm := "groundX") (lv := [(0, .ref (ad 8)), (1, .int a1), (2, .int a2)]) (plainFor_of_name (by decide)) rfl rfl (Nat.le_of_ble_eq_true rfl) rfl ?_
  intro p e s m args below meth c A Q ls B hP hD hS hl hret
  obtain ⟨hx, hb, hml, hown, hts, hK, hZ, hA, hnm⟩ := B
  have SF : CallFix p m c cX2_groundX 3 s args wsL_law RX2 := ⟨hx, hb, hml, hown, hts⟩
  unfold wp_X2_groundX at h
  refine lv_aload_n hx hb dX2_groundX_0 rfl (lv_at hl 0 rfl) ?_
  refine va_get (D := D) (ci := 2) (v := .ref (ad 9)) (C := RX2) (T := TX2) (N := 3) hx hb hts inlX2 hown hK hP 8 rfl rfl 0 (by decide) (hts _ w_4_3) (fun _ h9 => h9) rfl dX2_groundX_1 ?_
  refine lv_iload_n hx hb dX2_groundX_4 rfl (lv_at hl 1 rfl) ?_
  refine va_iald (f := gA st 4) (n := 24) hx hb hK hP 9 0 rfl rfl h.1 dX2_groundX_5 ?_
  have h := h.2
  refine lv_i2l (v := (gA st 4 a1.toNatClampNeg).toInt64) hx hb dX2_groundX_6 rfl ?_
  refine lv_aload_n hx hb dX2_groundX_7 rfl (lv_at hl 0 rfl) ?_
  refine va_get (D := D) (ci := 2) (v := .ref (ad 10)) (C := RX2) (T := TX2) (N := 3) hx hb hts inlX2 hown hK hP 8 rfl rfl 1 (by decide) (hts _ w_4_4) (fun _ h9 => h9) rfl dX2_groundX_8 ?_
  refine lv_iload_n hx hb dX2_groundX_11 rfl (lv_at hl 1 rfl) ?_
  refine va_iald (f := gA st 5) (n := 24) hx hb hK hP 10 0 rfl rfl h.1 dX2_groundX_12 ?_
  have h := h.2
  refine lv_i2l (v := (gA st 5 a1.toNatClampNeg).toInt64) hx hb dX2_groundX_13 rfl ?_
  refine lv_iload_n hx hb dX2_groundX_14 rfl (lv_at hl 1 rfl) ?_
  refine lv_iload_n hx hb dX2_groundX_15 rfl (lv_at hl 2 rfl) ?_
  refine lv_imul hx hb dX2_groundX_16 ?_
  refine callSIr (rest := [.long ((gA st 5 a1.toNatClampNeg).toInt64), .long ((gA st 4 a1.toNatClampNeg).toInt64)]) SF (c_X5_wayOf l D cy tz _ (a1 * a2) _ h) (cw_RX2_35 hts ⟨Nat.le_of_ble_eq_true rfl, Nat.le_of_ble_eq_true rfl⟩) rfl rfl hK hZ hA hP hD hS rfl hl.1 rfl (Nat.le_of_ble_eq_true rfl) dX2_groundX_17 ⟨Nat.zero_le _, Nat.zero_le _⟩ (fun r1 H locs h hP hD hS => ?_)
  refine callSLr (rest := []) SF (c_X9_turnX l D cy tz _ ((gA st 4 a1.toNatClampNeg).toInt64) ((gA st 5 a1.toNatClampNeg).toInt64) r1 _ h) (cw_RX2_41 hts ⟨Nat.le_of_ble_eq_true rfl, Nat.le_of_ble_eq_true rfl⟩) rfl rfl hK hZ hA hP hD hS rfl hl.1 rfl (Nat.le_of_ble_eq_true rfl) dX2_groundX_20 ⟨Nat.zero_le _, Nat.zero_le _⟩ (fun r3 H locs h hP hD hS => ?_)
  exact hret _ () _ _ _ _ h hP hD hS dX2_groundX_23
-- X2_groundY
def rm_X2_groundY : Room := { frames := 3, cells := 0, slots := 0, locals := 66 }
abbrev ws_X2_groundY : List Cond := .code yX2_groundY cX2_groundY 3 (some .long) :: wsL_law
theorem cw_RX2_47 {R : Room} {s : State} {args : Array Value} (hts : ∀ w ∈ wsL_law, w.before args s = true) (hR : rm_X9_turnY.frames + 1 ≤ R.frames ∧ 8 + (5 + 11) + rm_X9_turnY.locals ≤ R.locals) : CallB R s args RX2 47 yX9_turnY cX9_turnY 5 (some .long) ws_X9_turnY rm_X9_turnY rm_X9_turnY.cells rm_X9_turnY.slots 3 ∧ (Cond.static yX9_turnY).before args s = true := va_cwS 3 hts (gdS w_30_21 w_13_19 w_13_7 w_13_20) rfl rfl rfl (by decide +kernel) hR
def wp_X2_groundY (st : St) (a1 : Int32) (a2 : Int32) (post : Int64 → Prop) : Prop := vp_in a1 24 ∧ (vp_in a1 24 ∧ (wp_X5_wayOf (a1 * a2) (fun r1 => wp_X9_turnY ((gA st 4 a1.toNatClampNeg).toInt64) ((gA st 5 a1.toNatClampNeg).toInt64) r1 (fun r3 => post r3))))
set_option maxHeartbeats 4000000 in
set_option maxRecDepth 100000 in
theorem c_X2_groundY (l : Launch) (D : va_G) (cy : Nat → ClassId) (tz : Nat → Nat) (ad : Nat → Nat) (st : St) (a1 : Int32) (a2 : Int32) (post : Int64 → Prop) (h : wp_X2_groundY st a1 a2 post) : CtL l D cy tz yX2_groundY ws_X2_groundY rm_X2_groundY [.ref (ad 8), .int a1, .int a2] (wX cy ad st) (fun _ : Unit => wX cy ad st) (fun r _ => post r) := by
  refine CtL.of (own := RX2) (nm := "groundY") (lv := [(0, .ref (ad 8)), (1, .int a1), (2, .int a2)]) (plainFor_of_name (by decide)) rfl rfl (Nat.le_of_ble_eq_true rfl) rfl ?_
  intro p e s m args below meth c A Q ls B hP hD hS hl hret
  obtain ⟨hx, hb, hml, hown, hts, hK, hZ, hA, hnm⟩ := B
  have SF : CallFix p m c cX2_groundY 3 s args wsL_law RX2 := ⟨hx, hb, hml, hown, hts⟩
  unfold wp_X2_groundY at h
  refine lv_aload_n hx hb dX2_groundY_0 rfl (lv_at hl 0 rfl) ?_
  refine va_get (D := D) (ci := 2) (v := .ref (ad 9)) (C := RX2) (T := TX2) (N := 3) hx hb hts inlX2 hown hK hP 8 rfl rfl 0 (by decide) (hts _ w_4_3) (fun _ h9 => h9) rfl dX2_groundY_1 ?_
  refine lv_iload_n hx hb dX2_groundY_4 rfl (lv_at hl 1 rfl) ?_
  refine va_iald (f := gA st 4) (n := 24) hx hb hK hP 9 0 rfl rfl h.1 dX2_groundY_5 ?_
  have h := h.2
  refine lv_i2l (v := (gA st 4 a1.toNatClampNeg).toInt64) hx hb dX2_groundY_6 rfl ?_
  refine lv_aload_n hx hb dX2_groundY_7 rfl (lv_at hl 0 rfl) ?_
  refine va_get (D := D) (ci := 2) (v := .ref (ad 10)) (C := RX2) (T := TX2) (N := 3) hx hb hts inlX2 hown hK hP 8 rfl rfl 1 (by decide) (hts _ w_4_4) (fun _ h9 => h9) rfl dX2_groundY_8 ?_
  refine lv_iload_n hx hb dX2_groundY_11 rfl (lv_at hl 1 rfl) ?_
  refine va_iald (f := gA st 5) (n := 24) hx hb hK hP 10 0 rfl rfl h.1 dX2_groundY_12 ?_
  have h := h.2
  refine lv_i2l (v := (gA st 5 a1.toNatClampNeg).toInt64) hx hb dX2_groundY_13 rfl ?_
  refine lv_iload_n hx hb dX2_groundY_14 rfl (lv_at hl 1 rfl) ?_
  refine lv_iload_n hx hb dX2_groundY_15 rfl (lv_at hl 2 rfl) ?_
  refine lv_imul hx hb dX2_groundY_16 ?_
  refine callSIr (rest := [.long ((gA st 5 a1.toNatClampNeg).toInt64), .long ((gA st 4 a1.toNatClampNeg).toInt64)]) SF (c_X5_wayOf l D cy tz _ (a1 * a2) _ h) (cw_RX2_35 hts ⟨Nat.le_of_ble_eq_true rfl, Nat.le_of_ble_eq_true rfl⟩) rfl rfl hK hZ hA hP hD hS rfl hl.1 rfl (Nat.le_of_ble_eq_true rfl) dX2_groundY_17 ⟨Nat.zero_le _, Nat.zero_le _⟩ (fun r1 H locs h hP hD hS => ?_)
  refine callSLr (rest := []) SF (c_X9_turnY l D cy tz _ ((gA st 4 a1.toNatClampNeg).toInt64) ((gA st 5 a1.toNatClampNeg).toInt64) r1 _ h) (cw_RX2_47 hts ⟨Nat.le_of_ble_eq_true rfl, Nat.le_of_ble_eq_true rfl⟩) rfl rfl hK hZ hA hP hD hS rfl hl.1 rfl (Nat.le_of_ble_eq_true rfl) dX2_groundY_20 ⟨Nat.zero_le _, Nat.zero_le _⟩ (fun r3 H locs h hP hD hS => ?_)
  exact hret _ () _ _ _ _ h hP hD hS dX2_groundY_23
-- X2_bend
def rm_X2_bend : Room := { frames := 4, cells := 0, slots := 0, locals := 88 }
abbrev ws_X2_bend : List Cond := .code yX2_bend cX2_bend 5 (some .int) :: wsL_law
theorem cw_RX2_20 {R : Room} {s : State} {args : Array Value} (hts : ∀ w ∈ wsL_law, w.before args s = true) (hR : rm_X2_groundX.frames + 1 ≤ R.frames ∧ 8 + (3 + 11) + rm_X2_groundX.locals ≤ R.locals) : CallW R s args RX2 RX2 20 yX2_groundX cX2_groundX 3 (some .long) ws_X2_groundX rm_X2_groundX rm_X2_groundX.cells rm_X2_groundX.slots 2 := cwV 2 hts (gdV w_30_11 w_30_12 w_30_13 w_3_15 w_30_14) rfl rfl rfl (by decide +kernel) hR
theorem cw_RX2_32 {R : Room} {s : State} {args : Array Value} (hts : ∀ w ∈ wsL_law, w.before args s = true) (hR : rm_X2_groundY.frames + 1 ≤ R.frames ∧ 8 + (3 + 11) + rm_X2_groundY.locals ≤ R.locals) : CallW R s args RX2 RX2 32 yX2_groundY cX2_groundY 3 (some .long) ws_X2_groundY rm_X2_groundY rm_X2_groundY.cells rm_X2_groundY.slots 2 := cwV 2 hts (gdV w_30_17 w_30_18 w_30_19 w_3_15 w_30_20) rfl rfl rfl (by decide +kernel) hR
def wp_X2_bend_L5 (post : Int32 → Prop) (K : Int64 → Prop) (st : St) (a1 : Int32) : Nat → Int64 → Int32 → Prop
  | 0, _, _ => False
  | n5 + 1, v1, v2 => ((gI st 4 ≤ v2) → (K v1)) ∧ ((¬ gI st 4 ≤ v2) → (wp_X2_groundX st (v2 - 2) a1 (fun r5 => wp_X2_groundX st (v2 - 1) a1 (fun r7 => wp_X2_groundX st v2 a1 (fun r9 => ∀ x11 : Int64, x11 = (v1 + (if 0 < ((r5 - (2 * r7)) + r9) then ((r5 - (2 * r7)) + r9) else -((r5 - (2 * r7)) + r9))) → (wp_X2_groundY st (v2 - 2) a1 (fun r13 => wp_X2_groundY st (v2 - 1) a1 (fun r15 => wp_X2_groundY st v2 a1 (fun r17 => ∀ x19 : Int64, x19 = (x11 + (if 0 < ((r13 - (2 * r15)) + r17) then ((r13 - (2 * r15)) + r17) else -((r13 - (2 * r15)) + r17))) → (∀ x21 : Int32, x21 = v2 + 1 → (wp_X2_bend_L5 post K st a1 n5 x19 x21)))))))))))
def wp_X2_bend (st : St) (a1 : Int32) (post : Int32 → Prop) : Prop := ∃ m5 : Nat, wp_X2_bend_L5 post (fun v23 => post v23.toInt32) st a1 m5 0 2
set_option maxHeartbeats 4000000 in
set_option maxRecDepth 100000 in
theorem c_X2_bend (l : Launch) (D : va_G) (cy : Nat → ClassId) (tz : Nat → Nat) (ad : Nat → Nat) (st : St) (a1 : Int32) (post : Int32 → Prop) (h : wp_X2_bend st a1 post) : CtI l D cy tz yX2_bend ws_X2_bend rm_X2_bend [.ref (ad 8), .int a1] (wX cy ad st) (fun _ : Unit => wX cy ad st) (fun r _ => post r) := by
  refine CtI.of (own := RX2) (nm := "bend") (lv := [(0, .ref (ad 8)), (1, .int a1)]) (plainFor_of_name (by decide)) rfl rfl (Nat.le_of_ble_eq_true rfl) rfl ?_
  intro p e s m args below meth c A Q ls B hP hD hS hl hret
  obtain ⟨hx, hb, hml, hown, hts, hK, hZ, hA, hnm⟩ := B
  have SF : CallFix p m c cX2_bend 5 s args wsL_law RX2 := ⟨hx, hb, hml, hown, hts⟩
  unfold wp_X2_bend at h
  refine lv_lconst (v := 0) hx hb dX2_bend_0 (by decide) ?_
  refine lv_lstore_n (lv' := [(2, .long 0), (0, .ref (ad 8)), (1, .int a1)]) hx hb dX2_bend_1 rfl hl (by decide) rfl (fun ls hl => ?_)
  refine lv_iconst (v := 2) hx hb dX2_bend_2 (by decide) ?_
  refine lv_istore (lv' := [(4, .int 2), (2, .long 0), (0, .ref (ad 8)), (1, .int a1)]) hx hb dX2_bend_3 hl (by decide) rfl (fun ls hl => ?_)
  have loop5 : ∀ (K : Int64 → Prop), (∀ (v23 : Int64) (H : Heap) (locs : List Loc) (ls : Array Slot), K v23 → va_P D vwCl (wX cy ad st) H → va_D A (wX cy ad st) → va_S A s.heap H locs → lv_has ls 5 [(2, .long v23)] → W p l e rm_X2_bend s m args below meth c H locs 0 0 Q (F0 m 94 ls [])) → ∀ (n : Nat) (v1 : Int64) (v2 : Int32) (H : Heap) (locs : List Loc) (ls : Array Slot), wp_X2_bend_L5 post K st a1 n v1 v2 → va_P D vwCl (wX cy ad st) H → va_D A (wX cy ad st) → va_S A s.heap H locs → lv_has ls 5 [(0, .ref (ad 8)), (1, .int a1), (2, .long v1), (4, .int v2)] → W p l e rm_X2_bend s m args below meth c H locs 0 0 Q (F0 m 5 ls []) := by
    intro K hE5 n
    induction n with
    | zero => intro v1 v2 H locs ls h; exact h.elim
    | succ n ih5 =>
      intro v1 v2 H locs ls h hP hD hS hl
      rw [wp_X2_bend_L5] at h
      refine lv_iload hx hb dX2_bend_5 (lv_at hl 3 rfl) ?_
      refine lv_aload_n hx hb dX2_bend_7 rfl (lv_at hl 0 rfl) ?_
      refine va_get (D := D) (ci := 2) (v := .int (gI st 4)) (C := RX2) (T := TX2) (N := 3) hx hb hts inlX2 hown hK hP 8 rfl rfl 2 (by decide) (hts _ w_29_11) (fun _ h9 => h9) rfl dX2_bend_8 ?_
      refine lv_icmp_ge (tgt := 94) hx hb dX2_bend_11 (by decide) (fun c4 => ?_) (fun c4 => ?_)
      · have h := h.1 c4
        exact hE5 _ _ _ _ h hP hD hS (lv_sub hl [2] rfl)
      · have h := h.2 c4
        refine lv_lload_n hx hb dX2_bend_14 rfl (lv_at hl 2 rfl) ?_
        refine lv_aload_n hx hb dX2_bend_15 rfl (lv_at hl 0 rfl) ?_
        refine lv_iload hx hb dX2_bend_16 (lv_at hl 3 rfl) ?_
        refine lv_iconst (v := 2) hx hb dX2_bend_18 (by decide) ?_
        refine lv_isub hx hb dX2_bend_19 ?_
        refine lv_iload_n hx hb dX2_bend_20 rfl (lv_at hl 1 rfl) ?_
        refine callVLr (rest := [.long v1]) SF (c_X2_groundX l D cy tz ad st (v2 - 2) a1 _ h) (cw_RX2_20 hts ⟨Nat.le_of_ble_eq_true rfl, Nat.le_of_ble_eq_true rfl⟩) rfl rfl (va_recv hK hP (ci := 2) (q0 := 8) rfl rfl) hK hZ hA hP hD hS rfl hl.1 rfl (Nat.le_of_ble_eq_true rfl) dX2_bend_21 ⟨Nat.zero_le _, Nat.zero_le _⟩ (fun r5 H locs h hP hD hS => ?_)
        refine lv_ldc2 (v := 2) hx hb hown (hts _ w_30_9) dX2_bend_24 ?_
        refine lv_aload_n hx hb dX2_bend_27 rfl (lv_at hl 0 rfl) ?_
        refine lv_iload hx hb dX2_bend_28 (lv_at hl 3 rfl) ?_
        refine lv_iconst (v := 1) hx hb dX2_bend_30 (by decide) ?_
        refine lv_isub hx hb dX2_bend_31 ?_
        refine lv_iload_n hx hb dX2_bend_32 rfl (lv_at hl 1 rfl) ?_
        refine callVLr (rest := [.long 2, .long r5, .long v1]) SF (c_X2_groundX l D cy tz ad st (v2 - 1) a1 _ h) (cw_RX2_20 hts ⟨Nat.le_of_ble_eq_true rfl, Nat.le_of_ble_eq_true rfl⟩) rfl rfl (va_recv hK hP (ci := 2) (q0 := 8) rfl rfl) hK hZ hA hP hD hS rfl hl.1 rfl (Nat.le_of_ble_eq_true rfl) dX2_bend_33 ⟨Nat.zero_le _, Nat.zero_le _⟩ (fun r7 H locs h hP hD hS => ?_)
        refine lv_lmul hx hb dX2_bend_36 ?_
        refine lv_lsub hx hb dX2_bend_37 ?_
        refine lv_aload_n hx hb dX2_bend_38 rfl (lv_at hl 0 rfl) ?_
        refine lv_iload hx hb dX2_bend_39 (lv_at hl 3 rfl) ?_
        refine lv_iload_n hx hb dX2_bend_41 rfl (lv_at hl 1 rfl) ?_
        refine callVLr (rest := [.long (r5 - (2 * r7)), .long v1]) SF (c_X2_groundX l D cy tz ad st v2 a1 _ h) (cw_RX2_20 hts ⟨Nat.le_of_ble_eq_true rfl, Nat.le_of_ble_eq_true rfl⟩) rfl rfl (va_recv hK hP (ci := 2) (q0 := 8) rfl rfl) hK hZ hA hP hD hS rfl hl.1 rfl (Nat.le_of_ble_eq_true rfl) dX2_bend_42 ⟨Nat.zero_le _, Nat.zero_le _⟩ (fun r9 H locs h hP hD hS => ?_)
        refine lv_ladd hx hb dX2_bend_45 ?_
        refine va_mabs_long hx hb (hml.trans hl.1.symm) hown (hts _ w_30_10) (hts _ w_20_0) (hts _ w_11_4) (hts _ w_20_1) (Nat.le_of_ble_eq_true rfl) (Nat.le_of_ble_eq_true rfl) (Nat.zero_le _) (Nat.zero_le _) dX2_bend_46 ?_
        refine lv_ladd hx hb dX2_bend_49 ?_
        refine lv_topl (fun x11 e12 => ?_)
        have h := h x11 e12
        refine lv_lstore_n (lv' := [(2, .long x11), (0, .ref (ad 8)), (1, .int a1), (4, .int v2)]) hx hb dX2_bend_50 rfl hl (by decide) rfl (fun ls hl => ?_)
        refine lv_lload_n hx hb dX2_bend_51 rfl (lv_at hl 0 rfl) ?_
        refine lv_aload_n hx hb dX2_bend_52 rfl (lv_at hl 1 rfl) ?_
        refine lv_iload hx hb dX2_bend_53 (lv_at hl 3 rfl) ?_
        refine lv_iconst (v := 2) hx hb dX2_bend_55 (by decide) ?_
        refine lv_isub hx hb dX2_bend_56 ?_
        refine lv_iload_n hx hb dX2_bend_57 rfl (lv_at hl 2 rfl) ?_
        refine callVLr (rest := [.long x11]) SF (c_X2_groundY l D cy tz ad st (v2 - 2) a1 _ h) (cw_RX2_32 hts ⟨Nat.le_of_ble_eq_true rfl, Nat.le_of_ble_eq_true rfl⟩) rfl rfl (va_recv hK hP (ci := 2) (q0 := 8) rfl rfl) hK hZ hA hP hD hS rfl hl.1 rfl (Nat.le_of_ble_eq_true rfl) dX2_bend_58 ⟨Nat.zero_le _, Nat.zero_le _⟩ (fun r13 H locs h hP hD hS => ?_)
        refine lv_ldc2 (v := 2) hx hb hown (hts _ w_30_9) dX2_bend_61 ?_
        refine lv_aload_n hx hb dX2_bend_64 rfl (lv_at hl 1 rfl) ?_
        refine lv_iload hx hb dX2_bend_65 (lv_at hl 3 rfl) ?_
        refine lv_iconst (v := 1) hx hb dX2_bend_67 (by decide) ?_
        refine lv_isub hx hb dX2_bend_68 ?_
        refine lv_iload_n hx hb dX2_bend_69 rfl (lv_at hl 2 rfl) ?_
        refine callVLr (rest := [.long 2, .long r13, .long x11]) SF (c_X2_groundY l D cy tz ad st (v2 - 1) a1 _ h) (cw_RX2_32 hts ⟨Nat.le_of_ble_eq_true rfl, Nat.le_of_ble_eq_true rfl⟩) rfl rfl (va_recv hK hP (ci := 2) (q0 := 8) rfl rfl) hK hZ hA hP hD hS rfl hl.1 rfl (Nat.le_of_ble_eq_true rfl) dX2_bend_70 ⟨Nat.zero_le _, Nat.zero_le _⟩ (fun r15 H locs h hP hD hS => ?_)
        refine lv_lmul hx hb dX2_bend_73 ?_
        refine lv_lsub hx hb dX2_bend_74 ?_
        refine lv_aload_n hx hb dX2_bend_75 rfl (lv_at hl 1 rfl) ?_
        refine lv_iload hx hb dX2_bend_76 (lv_at hl 3 rfl) ?_
        refine lv_iload_n hx hb dX2_bend_78 rfl (lv_at hl 2 rfl) ?_
        refine callVLr (rest := [.long (r13 - (2 * r15)), .long x11]) SF (c_X2_groundY l D cy tz ad st v2 a1 _ h) (cw_RX2_32 hts ⟨Nat.le_of_ble_eq_true rfl, Nat.le_of_ble_eq_true rfl⟩) rfl rfl (va_recv hK hP (ci := 2) (q0 := 8) rfl rfl) hK hZ hA hP hD hS rfl hl.1 rfl (Nat.le_of_ble_eq_true rfl) dX2_bend_79 ⟨Nat.zero_le _, Nat.zero_le _⟩ (fun r17 H locs h hP hD hS => ?_)
        refine lv_ladd hx hb dX2_bend_82 ?_
        refine va_mabs_long hx hb (hml.trans hl.1.symm) hown (hts _ w_30_10) (hts _ w_20_0) (hts _ w_11_4) (hts _ w_20_1) (Nat.le_of_ble_eq_true rfl) (Nat.le_of_ble_eq_true rfl) (Nat.zero_le _) (Nat.zero_le _) dX2_bend_83 ?_
        refine lv_ladd hx hb dX2_bend_86 ?_
        refine lv_topl (fun x19 e20 => ?_)
        have h := h x19 e20
        refine lv_lstore_n (lv' := [(2, .long x19), (0, .ref (ad 8)), (1, .int a1), (4, .int v2)]) hx hb dX2_bend_87 rfl hl (by decide) rfl (fun ls hl => ?_)
        obtain ⟨x21, e22⟩ : ∃ z : Int32, z = v2 + 1 := ⟨_, rfl⟩
        have h := h x21 e22
        refine lv_iinc (v := x21) (lv' := [(4, .int x21), (2, .long x19), (0, .ref (ad 8)), (1, .int a1)]) hx hb dX2_bend_88 hl (k := 3) rfl (by rw [e22]; rfl) (by decide) rfl (fun ls hl => ?_)
        refine lv_goto (tgt := 5) hx hb dX2_bend_91 (by decide) ?_
        exact ih5 _ _ _ _ _ h hP hD hS (lv_sub hl [2, 3, 1, 0] rfl)
  obtain ⟨n, h⟩ := h
  refine loop5 _ ?_ n _ _ _ _ _ h hP hD hS (lv_sub hl [2, 3, 1, 0] rfl)
  intro v23 H locs ls h hP hD hS hl
  refine lv_lload_n hx hb dX2_bend_94 rfl (lv_at hl 0 rfl) ?_
  refine lv_l2i (v := v23.toInt32) hx hb dX2_bend_95 rfl ?_
  exact hret _ () _ _ _ _ rfl h hP hD hS dX2_bend_96
-- X2_likeliestPace
def rm_X2_likeliestPace : Room := { frames := 5, cells := 0, slots := 0, locals := 112 }
abbrev ws_X2_likeliestPace : List Cond := .code yX2_likeliestPace cX2_likeliestPace 7 (some .int) :: wsL_law
theorem cw_RX2_50 {R : Room} {s : State} {args : Array Value} (hts : ∀ w ∈ wsL_law, w.before args s = true) (hR : rm_X2_bend.frames + 1 ≤ R.frames ∧ 8 + (5 + 11) + rm_X2_bend.locals ≤ R.locals) : CallW R s args RX2 RX2 50 yX2_bend cX2_bend 5 (some .int) ws_X2_bend rm_X2_bend rm_X2_bend.cells rm_X2_bend.slots 1 := cwV 1 hts (gdV w_31_20 w_30_6 w_30_7 w_3_15 w_30_8) rfl rfl rfl (by decide +kernel) hR
def wp_X2_likeliestPace_L19 (post : Int32 → Prop) (K : Int32 → Int32 → Prop) (st : St) (v5 : Int32) : Nat → Int32 → Int32 → Int32 → Prop
  | 0, _, _, _ => False
  | n19 + 1, v8, v9, v10 => ((2 ≤ v10) → (K v8 v9)) ∧ ((¬ 2 ≤ v10) → (((¬ v10 = 0) → (∀ x14 : Int32, x14 = (-v5) → (wp_X2_bend st x14 (fun r16 => ((v9 ≤ r16) → (∀ x19 : Int32, x19 = v10 + 1 → (wp_X2_likeliestPace_L19 post K st v5 n19 v8 v9 x19))) ∧ ((¬ v9 ≤ r16) → (∀ x21 : Int32, x21 = v10 + 1 → (wp_X2_likeliestPace_L19 post K st v5 n19 x14 r16 x21))))))) ∧ ((v10 = 0) → (wp_X2_bend st v5 (fun r23 => ((v9 ≤ r23) → (∀ x26 : Int32, x26 = v10 + 1 → (wp_X2_likeliestPace_L19 post K st v5 n19 v8 v9 x26))) ∧ ((¬ v9 ≤ r23) → (∀ x28 : Int32, x28 = v10 + 1 → (wp_X2_likeliestPace_L19 post K st v5 n19 v5 r23 x28))))))))
def wp_X2_likeliestPace_L10 (post : Int32 → Prop) (K : Int32 → Prop) (st : St) : Nat → Int32 → Int32 → Int32 → Prop
  | 0, _, _, _ => False
  | n10 + 1, v3, v4, v5 => ((60 < v5) → (K v3)) ∧ ((¬ 60 < v5) → (∃ m19 : Nat, wp_X2_likeliestPace_L19 post (fun v30 v31 => ∀ x33 : Int32, x33 = v5 + 1 → (wp_X2_likeliestPace_L10 post K st n10 v30 v31 x33)) st v5 m19 v3 v4 0))
def wp_X2_likeliestPace (st : St) (post : Int32 → Prop) : Prop := wp_X2_bend st 0 (fun r1 => ∃ m10 : Nat, wp_X2_likeliestPace_L10 post (fun v35 => post v35) st m10 0 r1 1)
set_option maxHeartbeats 4000000 in
set_option maxRecDepth 100000 in
theorem c_X2_likeliestPace (l : Launch) (D : va_G) (cy : Nat → ClassId) (tz : Nat → Nat) (ad : Nat → Nat) (st : St) (post : Int32 → Prop) (h : wp_X2_likeliestPace st post) : CtI l D cy tz yX2_likeliestPace ws_X2_likeliestPace rm_X2_likeliestPace [.ref (ad 8)] (wX cy ad st) (fun _ : Unit => wX cy ad st) (fun r _ => post r) := by
  refine CtI.of (own := RX2) (nm := "likeliestPace") (lv := [(0, .ref (ad 8))]) (plainFor_of_name (by decide)) rfl rfl (Nat.le_of_ble_eq_true rfl) rfl ?_
  intro p e s m args below meth c A Q ls B hP hD hS hl hret
  obtain ⟨hx, hb, hml, hown, hts, hK, hZ, hA, hnm⟩ := B
  have SF : CallFix p m c cX2_likeliestPace 7 s args wsL_law RX2 := ⟨hx, hb, hml, hown, hts⟩
  unfold wp_X2_likeliestPace at h
  refine lv_iconst (v := 0) hx hb dX2_likeliestPace_0 (by decide) ?_
  refine lv_istore_n (lv' := [(1, .int 0), (0, .ref (ad 8))]) hx hb dX2_likeliestPace_1 rfl hl (by decide) rfl (fun ls hl => ?_)
  refine lv_aload_n hx hb dX2_likeliestPace_2 rfl (lv_at hl 1 rfl) ?_
  refine lv_iconst (v := 0) hx hb dX2_likeliestPace_3 (by decide) ?_
  refine callVIr (rest := []) SF (c_X2_bend l D cy tz ad st 0 _ h) (cw_RX2_50 hts ⟨Nat.le_of_ble_eq_true rfl, Nat.le_of_ble_eq_true rfl⟩) rfl rfl (va_recv hK hP (ci := 2) (q0 := 8) rfl rfl) hK hZ hA hP hD hS rfl hl.1 rfl (Nat.le_of_ble_eq_true rfl) dX2_likeliestPace_4 ⟨Nat.zero_le _, Nat.zero_le _⟩ (fun r1 H locs h hP hD hS => ?_)
  refine lv_istore_n (lv' := [(2, .int r1), (1, .int 0), (0, .ref (ad 8))]) hx hb dX2_likeliestPace_7 rfl hl (by decide) rfl (fun ls hl => ?_)
  refine lv_iconst (v := 1) hx hb dX2_likeliestPace_8 (by decide) ?_
  refine lv_istore_n (lv' := [(3, .int 1), (2, .int r1), (1, .int 0), (0, .ref (ad 8))]) hx hb dX2_likeliestPace_9 rfl hl (by decide) rfl (fun ls hl => ?_)
  have loop10 : ∀ (K : Int32 → Prop), (∀ (v35 : Int32) (H : Heap) (locs : List Loc) (ls : Array Slot), K v35 → va_P D vwCl (wX cy ad st) H → va_D A (wX cy ad st) → va_S A s.heap H locs → lv_has ls 7 [(1, .int v35)] → W p l e rm_X2_likeliestPace s m args below meth c H locs 0 0 Q (F0 m 70 ls [])) → ∀ (n : Nat) (v3 : Int32) (v4 : Int32) (v5 : Int32) (H : Heap) (locs : List Loc) (ls : Array Slot), wp_X2_likeliestPace_L10 post K st n v3 v4 v5 → va_P D vwCl (wX cy ad st) H → va_D A (wX cy ad st) → va_S A s.heap H locs → lv_has ls 7 [(0, .ref (ad 8)), (1, .int v3), (2, .int v4), (3, .int v5)] → W p l e rm_X2_likeliestPace s m args below meth c H locs 0 0 Q (F0 m 10 ls []) := by
    intro K hE10 n
    induction n with
    | zero => intro v3 v4 v5 H locs ls h; exact h.elim
    | succ n ih10 =>
      intro v3 v4 v5 H locs ls h hP hD hS hl
      rw [wp_X2_likeliestPace_L10] at h
      refine lv_iload_n hx hb dX2_likeliestPace_10 rfl (lv_at hl 3 rfl) ?_
      refine lv_bipush (v := 60) hx hb dX2_likeliestPace_11 (by decide) ?_
      refine lv_icmp_gt (tgt := 70) hx hb dX2_likeliestPace_13 (by decide) (fun c7 => ?_) (fun c7 => ?_)
      · have h := h.1 c7
        exact hE10 _ _ _ _ h hP hD hS (lv_sub hl [1] rfl)
      · have h := h.2 c7
        refine lv_iconst (v := 0) hx hb dX2_likeliestPace_16 (by decide) ?_
        refine lv_istore (lv' := [(4, .int 0), (0, .ref (ad 8)), (1, .int v3), (2, .int v4), (3, .int v5)]) hx hb dX2_likeliestPace_17 hl (by decide) rfl (fun ls hl => ?_)
        have loop19 : ∀ (K : Int32 → Int32 → Prop), (∀ (v30 : Int32) (v31 : Int32) (H : Heap) (locs : List Loc) (ls : Array Slot), K v30 v31 → va_P D vwCl (wX cy ad st) H → va_D A (wX cy ad st) → va_S A s.heap H locs → lv_has ls 7 [(0, .ref (ad 8)), (1, .int v30), (2, .int v31), (3, .int v5)] → W p l e rm_X2_likeliestPace s m args below meth c H locs 0 0 Q (F0 m 64 ls [])) → ∀ (n : Nat) (v8 : Int32) (v9 : Int32) (v10 : Int32) (H : Heap) (locs : List Loc) (ls : Array Slot), wp_X2_likeliestPace_L19 post K st v5 n v8 v9 v10 → va_P D vwCl (wX cy ad st) H → va_D A (wX cy ad st) → va_S A s.heap H locs → lv_has ls 7 [(0, .ref (ad 8)), (1, .int v8), (2, .int v9), (3, .int v5), (4, .int v10)] → W p l e rm_X2_likeliestPace s m args below meth c H locs 0 0 Q (F0 m 19 ls []) := by
          intro K hE19 n
          induction n with
          | zero => intro v8 v9 v10 H locs ls h; exact h.elim
          | succ n ih19 =>
            intro v8 v9 v10 H locs ls h hP hD hS hl
            rw [wp_X2_likeliestPace_L19] at h
            refine lv_iload hx hb dX2_likeliestPace_19 (lv_at hl 4 rfl) ?_
            refine lv_iconst (v := 2) hx hb dX2_likeliestPace_21 (by decide) ?_
            refine lv_icmp_ge (tgt := 64) hx hb dX2_likeliestPace_22 (by decide) (fun c12 => ?_) (fun c12 => ?_)
            · have h := h.1 c12
              exact hE19 _ _ _ _ _ h hP hD hS (lv_sub hl [0, 1, 2, 3] rfl)
            · have h := h.2 c12
              refine lv_iload hx hb dX2_likeliestPace_25 (lv_at hl 4 rfl) ?_
              refine lv_if_ne (tgt := 34) hx hb dX2_likeliestPace_27 (by decide) (fun c13 => ?_) (fun c13 => ?_)
              · have h := h.1 c13
                refine lv_iload_n hx hb dX2_likeliestPace_34 rfl (lv_at hl 3 rfl) ?_
                refine lv_ineg hx hb dX2_likeliestPace_35 ?_
                refine lv_topi (fun x14 e15 => ?_)
                have h := h x14 e15
                refine lv_istore (lv' := [(5, .int x14), (0, .ref (ad 8)), (1, .int v8), (2, .int v9), (3, .int v5), (4, .int v10)]) hx hb dX2_likeliestPace_36 hl (by decide) rfl (fun ls hl => ?_)
                refine lv_aload_n hx hb dX2_likeliestPace_38 rfl (lv_at hl 1 rfl) ?_
                refine lv_iload hx hb dX2_likeliestPace_39 (lv_at hl 0 rfl) ?_
                refine callVIr (rest := []) SF (c_X2_bend l D cy tz ad st x14 _ h) (cw_RX2_50 hts ⟨Nat.le_of_ble_eq_true rfl, Nat.le_of_ble_eq_true rfl⟩) rfl rfl (va_recv hK hP (ci := 2) (q0 := 8) rfl rfl) hK hZ hA hP hD hS rfl hl.1 rfl (Nat.le_of_ble_eq_true rfl) dX2_likeliestPace_41 ⟨Nat.zero_le _, Nat.zero_le _⟩ (fun r16 H locs h hP hD hS => ?_)
                refine lv_istore (lv' := [(6, .int r16), (5, .int x14), (0, .ref (ad 8)), (1, .int v8), (2, .int v9), (3, .int v5), (4, .int v10)]) hx hb dX2_likeliestPace_44 hl (by decide) rfl (fun ls hl => ?_)
                refine lv_iload hx hb dX2_likeliestPace_46 (lv_at hl 0 rfl) ?_
                refine lv_iload_n hx hb dX2_likeliestPace_48 rfl (lv_at hl 4 rfl) ?_
                refine lv_icmp_ge (tgt := 58) hx hb dX2_likeliestPace_49 (by decide) (fun c18 => ?_) (fun c18 => ?_)
                · have h := h.1 c18
                  obtain ⟨x19, e20⟩ : ∃ z : Int32, z = v10 + 1 := ⟨_, rfl⟩
                  have h := h x19 e20
                  refine lv_iinc (v := x19) (lv' := [(4, .int x19), (6, .int r16), (5, .int x14), (0, .ref (ad 8)), (1, .int v8), (2, .int v9), (3, .int v5)]) hx hb dX2_likeliestPace_58 hl (k := 6) rfl (by rw [e20]; rfl) (by decide) rfl (fun ls hl => ?_)
                  refine lv_goto (tgt := 19) hx hb dX2_likeliestPace_61 (by decide) ?_
                  exact ih19 _ _ _ _ _ _ h hP hD hS (lv_sub hl [3, 4, 5, 6, 0] rfl)
                · have h := h.2 c18
                  refine lv_iload hx hb dX2_likeliestPace_52 (lv_at hl 0 rfl) ?_
                  refine lv_istore_n (lv' := [(2, .int r16), (6, .int r16), (5, .int x14), (0, .ref (ad 8)), (1, .int v8), (3, .int v5), (4, .int v10)]) hx hb dX2_likeliestPace_54 rfl hl (by decide) rfl (fun ls hl => ?_)
                  refine lv_iload hx hb dX2_likeliestPace_55 (lv_at hl 2 rfl) ?_
                  refine lv_istore_n (lv' := [(1, .int x14), (2, .int r16), (6, .int r16), (5, .int x14), (0, .ref (ad 8)), (3, .int v5), (4, .int v10)]) hx hb dX2_likeliestPace_57 rfl hl (by decide) rfl (fun ls hl => ?_)
                  obtain ⟨x21, e22⟩ : ∃ z : Int32, z = v10 + 1 := ⟨_, rfl⟩
                  have h := h x21 e22
                  refine lv_iinc (v := x21) (lv' := [(4, .int x21), (1, .int x14), (2, .int r16), (6, .int r16), (5, .int x14), (0, .ref (ad 8)), (3, .int v5)]) hx hb dX2_likeliestPace_58 hl (k := 6) rfl (by rw [e22]; rfl) (by decide) rfl (fun ls hl => ?_)
                  refine lv_goto (tgt := 19) hx hb dX2_likeliestPace_61 (by decide) ?_
                  exact ih19 _ _ _ _ _ _ h hP hD hS (lv_sub hl [5, 1, 2, 6, 0] rfl)
              · have h := h.2 c13
                refine lv_iload_n hx hb dX2_likeliestPace_30 rfl (lv_at hl 3 rfl) ?_
                refine lv_goto (tgt := 36) hx hb dX2_likeliestPace_31 (by decide) ?_
                refine lv_istore (lv' := [(5, .int v5), (0, .ref (ad 8)), (1, .int v8), (2, .int v9), (3, .int v5), (4, .int v10)]) hx hb dX2_likeliestPace_36 hl (by decide) rfl (fun ls hl => ?_)
                refine lv_aload_n hx hb dX2_likeliestPace_38 rfl (lv_at hl 1 rfl) ?_
                refine lv_iload hx hb dX2_likeliestPace_39 (lv_at hl 0 rfl) ?_
                refine callVIr (rest := []) SF (c_X2_bend l D cy tz ad st v5 _ h) (cw_RX2_50 hts ⟨Nat.le_of_ble_eq_true rfl, Nat.le_of_ble_eq_true rfl⟩) rfl rfl (va_recv hK hP (ci := 2) (q0 := 8) rfl rfl) hK hZ hA hP hD hS rfl hl.1 rfl (Nat.le_of_ble_eq_true rfl) dX2_likeliestPace_41 ⟨Nat.zero_le _, Nat.zero_le _⟩ (fun r23 H locs h hP hD hS => ?_)
                refine lv_istore (lv' := [(6, .int r23), (5, .int v5), (0, .ref (ad 8)), (1, .int v8), (2, .int v9), (3, .int v5), (4, .int v10)]) hx hb dX2_likeliestPace_44 hl (by decide) rfl (fun ls hl => ?_)
                refine lv_iload hx hb dX2_likeliestPace_46 (lv_at hl 0 rfl) ?_
                refine lv_iload_n hx hb dX2_likeliestPace_48 rfl (lv_at hl 4 rfl) ?_
                refine lv_icmp_ge (tgt := 58) hx hb dX2_likeliestPace_49 (by decide) (fun c25 => ?_) (fun c25 => ?_)
                · have h := h.1 c25
                  obtain ⟨x26, e27⟩ : ∃ z : Int32, z = v10 + 1 := ⟨_, rfl⟩
                  have h := h x26 e27
                  refine lv_iinc (v := x26) (lv' := [(4, .int x26), (6, .int r23), (5, .int v5), (0, .ref (ad 8)), (1, .int v8), (2, .int v9), (3, .int v5)]) hx hb dX2_likeliestPace_58 hl (k := 6) rfl (by rw [e27]; rfl) (by decide) rfl (fun ls hl => ?_)
                  refine lv_goto (tgt := 19) hx hb dX2_likeliestPace_61 (by decide) ?_
                  exact ih19 _ _ _ _ _ _ h hP hD hS (lv_sub hl [3, 4, 5, 6, 0] rfl)
                · have h := h.2 c25
                  refine lv_iload hx hb dX2_likeliestPace_52 (lv_at hl 0 rfl) ?_
                  refine lv_istore_n (lv' := [(2, .int r23), (6, .int r23), (5, .int v5), (0, .ref (ad 8)), (1, .int v8), (3, .int v5), (4, .int v10)]) hx hb dX2_likeliestPace_54 rfl hl (by decide) rfl (fun ls hl => ?_)
                  refine lv_iload hx hb dX2_likeliestPace_55 (lv_at hl 2 rfl) ?_
                  refine lv_istore_n (lv' := [(1, .int v5), (2, .int r23), (6, .int r23), (5, .int v5), (0, .ref (ad 8)), (3, .int v5), (4, .int v10)]) hx hb dX2_likeliestPace_57 rfl hl (by decide) rfl (fun ls hl => ?_)
                  obtain ⟨x28, e29⟩ : ∃ z : Int32, z = v10 + 1 := ⟨_, rfl⟩
                  have h := h x28 e29
                  refine lv_iinc (v := x28) (lv' := [(4, .int x28), (1, .int v5), (2, .int r23), (6, .int r23), (5, .int v5), (0, .ref (ad 8)), (3, .int v5)]) hx hb dX2_likeliestPace_58 hl (k := 6) rfl (by rw [e29]; rfl) (by decide) rfl (fun ls hl => ?_)
                  refine lv_goto (tgt := 19) hx hb dX2_likeliestPace_61 (by decide) ?_
                  exact ih19 _ _ _ _ _ _ h hP hD hS (lv_sub hl [5, 1, 2, 6, 0] rfl)
        obtain ⟨n, h⟩ := h
        refine loop19 _ ?_ n _ _ _ _ _ _ h hP hD hS (lv_sub hl [1, 2, 3, 4, 0] rfl)
        intro v30 v31 H locs ls h hP hD hS hl
        obtain ⟨x33, e34⟩ : ∃ z : Int32, z = v5 + 1 := ⟨_, rfl⟩
        have h := h x33 e34
        refine lv_iinc (v := x33) (lv' := [(3, .int x33), (0, .ref (ad 8)), (1, .int v30), (2, .int v31)]) hx hb dX2_likeliestPace_64 hl (k := 3) rfl (by rw [e34]; rfl) (by decide) rfl (fun ls hl => ?_)
        refine lv_goto (tgt := 10) hx hb dX2_likeliestPace_67 (by decide) ?_
        exact ih10 _ _ _ _ _ _ h hP hD hS (lv_sub hl [1, 2, 3, 0] rfl)
  obtain ⟨n, h⟩ := h
  refine loop10 _ ?_ n _ _ _ _ _ _ h hP hD hS (lv_sub hl [3, 2, 1, 0] rfl)
  intro v35 H locs ls h hP hD hS hl
  refine lv_iload_n hx hb dX2_likeliestPace_70 rfl (lv_at hl 0 rfl) ?_
  exact hret _ () _ _ _ _ rfl h hP hD hS dX2_likeliestPace_71
-- X2_farthestPace
def rm_X2_farthestPace : Room := { frames := 6, cells := 0, slots := 0, locals := 138 }
abbrev ws_X2_farthestPace : List Cond := .code yX2_farthestPace cX2_farthestPace 6 (some .int) :: wsL_law
theorem cw_RX2_53 {R : Room} {s : State} {args : Array Value} (hts : ∀ w ∈ wsL_law, w.before args s = true) (hR : rm_X2_likeliestPace.frames + 1 ≤ R.frames ∧ 8 + (7 + 11) + rm_X2_likeliestPace.locals ≤ R.locals) : CallW R s args RX2 RX2 53 yX2_likeliestPace cX2_likeliestPace 7 (some .int) ws_X2_likeliestPace rm_X2_likeliestPace rm_X2_likeliestPace.cells rm_X2_likeliestPace.slots 0 := cwV 0 hts (gdV w_32_14 w_31_17 w_31_18 w_3_15 w_31_19) rfl rfl rfl (by decide +kernel) hR
def wp_X2_farthestPace_L18 (post : Int32 → Prop) (K : Prop) (st : St) (a2 : Int32) (r1 : Int32) (x5 : Int32) : Nat → Int32 → Prop
  | 0, _ => False
  | n18 + 1, v7 => ((v7 ≤ (a2 * r1)) → (K)) ∧ ((¬ v7 ≤ (a2 * r1)) → (wp_X2_bend st (a2 * v7) (fun r10 => ((x5 < r10) → (∀ x13 : Int32, x13 = v7 + (-1) → (wp_X2_farthestPace_L18 post K st a2 r1 x5 n18 x13))) ∧ ((¬ x5 < r10) → (post (a2 * v7))))))
def wp_X2_farthestPace (st : St) (a1 : Int32) (a2 : Int32) (post : Int32 → Prop) : Prop := wp_X2_likeliestPace st (fun r1 => wp_X2_bend st r1 (fun r3 => ∀ x5 : Int32, x5 = (r3 + a1) → (∃ m18 : Nat, wp_X2_farthestPace_L18 post (post r1) st a2 r1 x5 m18 60)))
set_option maxHeartbeats 4000000 in
set_option maxRecDepth 100000 in
theorem c_X2_farthestPace (l : Launch) (D : va_G) (cy : Nat → ClassId) (tz : Nat → Nat) (ad : Nat → Nat) (st : St) (a1 : Int32) (a2 : Int32) (post : Int32 → Prop) (h : wp_X2_farthestPace st a1 a2 post) : CtI l D cy tz yX2_farthestPace ws_X2_farthestPace rm_X2_farthestPace [.ref (ad 8), .int a1, .int a2] (wX cy ad st) (fun _ : Unit => wX cy ad st) (fun r _ => post r) := by
  refine CtI.of (own := RX2) (nm := "farthestPace") (lv := [(0, .ref (ad 8)), (1, .int a1), (2, .int a2)]) (plainFor_of_name (by decide)) rfl rfl (Nat.le_of_ble_eq_true rfl) rfl ?_
  intro p e s m args below meth c A Q ls B hP hD hS hl hret
  obtain ⟨hx, hb, hml, hown, hts, hK, hZ, hA, hnm⟩ := B
  have SF : CallFix p m c cX2_farthestPace 6 s args wsL_law RX2 := ⟨hx, hb, hml, hown, hts⟩
  unfold wp_X2_farthestPace at h
  refine lv_aload_n hx hb dX2_farthestPace_0 rfl (lv_at hl 0 rfl) ?_
  refine callVIr (rest := []) SF (c_X2_likeliestPace l D cy tz ad st _ h) (cw_RX2_53 hts ⟨Nat.le_of_ble_eq_true rfl, Nat.le_of_ble_eq_true rfl⟩) rfl rfl (va_recv hK hP (ci := 2) (q0 := 8) rfl rfl) hK hZ hA hP hD hS rfl hl.1 rfl (Nat.le_of_ble_eq_true rfl) dX2_farthestPace_1 ⟨Nat.zero_le _, Nat.zero_le _⟩ (fun r1 H locs h hP hD hS => ?_)
  refine lv_istore_n (lv' := [(3, .int r1), (0, .ref (ad 8)), (1, .int a1), (2, .int a2)]) hx hb dX2_farthestPace_4 rfl hl (by decide) rfl (fun ls hl => ?_)
  refine lv_aload_n hx hb dX2_farthestPace_5 rfl (lv_at hl 1 rfl) ?_
  refine lv_iload_n hx hb dX2_farthestPace_6 rfl (lv_at hl 0 rfl) ?_
  refine callVIr (rest := []) SF (c_X2_bend l D cy tz ad st r1 _ h) (cw_RX2_50 hts ⟨Nat.le_of_ble_eq_true rfl, Nat.le_of_ble_eq_true rfl⟩) rfl rfl (va_recv hK hP (ci := 2) (q0 := 8) rfl rfl) hK hZ hA hP hD hS rfl hl.1 rfl (Nat.le_of_ble_eq_true rfl) dX2_farthestPace_7 ⟨Nat.zero_le _, Nat.zero_le _⟩ (fun r3 H locs h hP hD hS => ?_)
  refine lv_iload_n hx hb dX2_farthestPace_10 rfl (lv_at hl 2 rfl) ?_
  refine lv_iadd hx hb dX2_farthestPace_11 ?_
  refine lv_topi (fun x5 e6 => ?_)
  have h := h x5 e6
  refine lv_istore (lv' := [(4, .int x5), (3, .int r1), (0, .ref (ad 8)), (1, .int a1), (2, .int a2)]) hx hb dX2_farthestPace_12 hl (by decide) rfl (fun ls hl => ?_)
  refine lv_bipush (v := 60) hx hb dX2_farthestPace_14 (by decide) ?_
  refine lv_istore (lv' := [(5, .int 60), (4, .int x5), (3, .int r1), (0, .ref (ad 8)), (1, .int a1), (2, .int a2)]) hx hb dX2_farthestPace_16 hl (by decide) rfl (fun ls hl => ?_)
  have loop18 : ∀ (K : Prop), (∀ (H : Heap) (locs : List Loc) (ls : Array Slot), K → va_P D vwCl (wX cy ad st) H → va_D A (wX cy ad st) → va_S A s.heap H locs → lv_has ls 6 [(3, .int r1)] → W p l e rm_X2_farthestPace s m args below meth c H locs 0 0 Q (F0 m 50 ls [])) → ∀ (n : Nat) (v7 : Int32) (H : Heap) (locs : List Loc) (ls : Array Slot), wp_X2_farthestPace_L18 post K st a2 r1 x5 n v7 → va_P D vwCl (wX cy ad st) H → va_D A (wX cy ad st) → va_S A s.heap H locs → lv_has ls 6 [(0, .ref (ad 8)), (2, .int a2), (3, .int r1), (4, .int x5), (5, .int v7)] → W p l e rm_X2_farthestPace s m args below meth c H locs 0 0 Q (F0 m 18 ls []) := by
    intro K hE18 n
    induction n with
    | zero => intro v7 H locs ls h; exact h.elim
    | succ n ih18 =>
      intro v7 H locs ls h hP hD hS hl
      rw [wp_X2_farthestPace_L18] at h
      refine lv_iload hx hb dX2_farthestPace_18 (lv_at hl 4 rfl) ?_
      refine lv_iload_n hx hb dX2_farthestPace_20 rfl (lv_at hl 1 rfl) ?_
      refine lv_iload_n hx hb dX2_farthestPace_21 rfl (lv_at hl 2 rfl) ?_
      refine lv_imul hx hb dX2_farthestPace_22 ?_
      refine lv_icmp_le (tgt := 50) hx hb dX2_farthestPace_23 (by decide) (fun c9 => ?_) (fun c9 => ?_)
      · have h := h.1 c9
        exact hE18 _ _ _ h hP hD hS (lv_sub hl [2] rfl)
      · have h := h.2 c9
        refine lv_aload_n hx hb dX2_farthestPace_26 rfl (lv_at hl 0 rfl) ?_
        refine lv_iload_n hx hb dX2_farthestPace_27 rfl (lv_at hl 1 rfl) ?_
        refine lv_iload hx hb dX2_farthestPace_28 (lv_at hl 4 rfl) ?_
        refine lv_imul hx hb dX2_farthestPace_30 ?_
        refine callVIr (rest := []) SF (c_X2_bend l D cy tz ad st (a2 * v7) _ h) (cw_RX2_50 hts ⟨Nat.le_of_ble_eq_true rfl, Nat.le_of_ble_eq_true rfl⟩) rfl rfl (va_recv hK hP (ci := 2) (q0 := 8) rfl rfl) hK hZ hA hP hD hS rfl hl.1 rfl (Nat.le_of_ble_eq_true rfl) dX2_farthestPace_31 ⟨Nat.zero_le _, Nat.zero_le _⟩ (fun r10 H locs h hP hD hS => ?_)
        refine lv_iload hx hb dX2_farthestPace_34 (lv_at hl 3 rfl) ?_
        refine lv_icmp_gt (tgt := 44) hx hb dX2_farthestPace_36 (by decide) (fun c12 => ?_) (fun c12 => ?_)
        · have h := h.1 c12
          obtain ⟨x13, e14⟩ : ∃ z : Int32, z = v7 + (-1) := ⟨_, rfl⟩
          have h := h x13 e14
          refine lv_iinc (v := x13) (lv' := [(5, .int x13), (0, .ref (ad 8)), (2, .int a2), (3, .int r1), (4, .int x5)]) hx hb dX2_farthestPace_44 hl (k := 4) rfl (by rw [e14]; rfl) (by decide) rfl (fun ls hl => ?_)
          refine lv_goto (tgt := 18) hx hb dX2_farthestPace_47 (by decide) ?_
          exact ih18 _ _ _ _ h hP hD hS (lv_sub hl [1, 2, 3, 4, 0] rfl)
        · have h := h.2 c12
          refine lv_iload_n hx hb dX2_farthestPace_39 rfl (lv_at hl 1 rfl) ?_
          refine lv_iload hx hb dX2_farthestPace_40 (lv_at hl 4 rfl) ?_
          refine lv_imul hx hb dX2_farthestPace_42 ?_
          exact hret _ () _ _ _ _ rfl h hP hD hS dX2_farthestPace_43
  obtain ⟨n, h⟩ := h
  refine loop18 _ ?_ n _ _ _ _ h hP hD hS (lv_sub hl [3, 5, 2, 1, 0] rfl)
  intro H locs ls h hP hD hS hl
  refine lv_iload_n hx hb dX2_farthestPace_50 rfl (lv_at hl 0 rfl) ?_
  exact hret _ () _ _ _ _ rfl h hP hD hS dX2_farthestPace_51
-- X3_product
def rm_X3_product : Room := { frames := 3, cells := 0, slots := 0, locals := 66 }
abbrev ws_X3_product : List Cond := .code yX3_product cX3_product 4 (some .long) :: wsL_law
theorem cw_RX3_19 {R : Room} {s : State} {args : Array Value} (hts : ∀ w ∈ wsL_law, w.before args s = true) (hR : rm_X9_turnX.frames + 1 ≤ R.frames ∧ 8 + (5 + 11) + rm_X9_turnX.locals ≤ R.locals) : CallB R s args RX3 19 yX9_turnX cX9_turnX 5 (some .long) ws_X9_turnX rm_X9_turnX rm_X9_turnX.cells rm_X9_turnX.slots 3 ∧ (Cond.static yX9_turnX).before args s = true := va_cwS 3 hts (gdS w_33_17 w_13_6 w_13_7 w_13_8) rfl rfl rfl (by decide +kernel) hR
theorem cw_RX3_25 {R : Room} {s : State} {args : Array Value} (hts : ∀ w ∈ wsL_law, w.before args s = true) (hR : rm_X9_turnY.frames + 1 ≤ R.frames ∧ 8 + (5 + 11) + rm_X9_turnY.locals ≤ R.locals) : CallB R s args RX3 25 yX9_turnY cX9_turnY 5 (some .long) ws_X9_turnY rm_X9_turnY rm_X9_turnY.cells rm_X9_turnY.slots 3 ∧ (Cond.static yX9_turnY).before args s = true := va_cwS 3 hts (gdS w_33_18 w_13_19 w_13_7 w_13_20) rfl rfl rfl (by decide +kernel) hR
def wp_X3_product (a1 : Int32) (a2 : Int32) (a3 : Int32) (a4 : Int32) (post : Int64 → Prop) : Prop := wp_X9_turnX a3.toInt64 0 a4 (fun r1 => wp_X9_turnY a3.toInt64 0 a4 (fun r3 => post ((a1.toInt64 * r1) + (a2.toInt64 * r3))))
set_option maxHeartbeats 4000000 in
set_option maxRecDepth 100000 in
theorem c_X3_product (l : Launch) (D : va_G) (cy : Nat → ClassId) (tz : Nat → Nat) (w : va_W) (a1 : Int32) (a2 : Int32) (a3 : Int32) (a4 : Int32) (post : Int64 → Prop) (h : wp_X3_product a1 a2 a3 a4 post) : CtL l D cy tz yX3_product ws_X3_product rm_X3_product [.int a1, .int a2, .int a3, .int a4] w (fun _ : Unit => w) (fun r _ => post r) := by
  refine CtL.of (own := RX3) (nm := "product") (lv := [(0, .int a1), (1, .int a2), (2, .int a3), (3, .int a4)]) (plainFor_of_name (by decide)) rfl rfl (Nat.le_of_ble_eq_true rfl) rfl ?_
  intro p e s m args below meth c A Q ls B hP hD hS hl hret
  obtain ⟨hx, hb, hml, hown, hts, hK, hZ, hA, hnm⟩ := B
  have SF : CallFix p m c cX3_product 4 s args wsL_law RX3 := ⟨hx, hb, hml, hown, hts⟩
  unfold wp_X3_product at h
  refine lv_iload_n hx hb dX3_product_0 rfl (lv_at hl 0 rfl) ?_
  refine lv_i2l (v := a1.toInt64) hx hb dX3_product_1 rfl ?_
  refine lv_iload_n hx hb dX3_product_2 rfl (lv_at hl 2 rfl) ?_
  refine lv_i2l (v := a3.toInt64) hx hb dX3_product_3 rfl ?_
  refine lv_lconst (v := 0) hx hb dX3_product_4 (by decide) ?_
  refine lv_iload_n hx hb dX3_product_5 rfl (lv_at hl 3 rfl) ?_
  refine callSLr (rest := [.long a1.toInt64]) SF (c_X9_turnX l D cy tz _ a3.toInt64 0 a4 _ h) (cw_RX3_19 hts ⟨Nat.le_of_ble_eq_true rfl, Nat.le_of_ble_eq_true rfl⟩) rfl rfl hK hZ hA hP hD hS rfl hl.1 rfl (Nat.le_of_ble_eq_true rfl) dX3_product_6 ⟨Nat.zero_le _, Nat.zero_le _⟩ (fun r1 H locs h hP hD hS => ?_)
  refine lv_lmul hx hb dX3_product_9 ?_
  refine lv_iload_n hx hb dX3_product_10 rfl (lv_at hl 1 rfl) ?_
  refine lv_i2l (v := a2.toInt64) hx hb dX3_product_11 rfl ?_
  refine lv_iload_n hx hb dX3_product_12 rfl (lv_at hl 2 rfl) ?_
  refine lv_i2l (v := a3.toInt64) hx hb dX3_product_13 rfl ?_
  refine lv_lconst (v := 0) hx hb dX3_product_14 (by decide) ?_
  refine lv_iload_n hx hb dX3_product_15 rfl (lv_at hl 3 rfl) ?_
  refine callSLr (rest := [.long a2.toInt64, .long (a1.toInt64 * r1)]) SF (c_X9_turnY l D cy tz _ a3.toInt64 0 a4 _ h) (cw_RX3_25 hts ⟨Nat.le_of_ble_eq_true rfl, Nat.le_of_ble_eq_true rfl⟩) rfl rfl hK hZ hA hP hD hS rfl hl.1 rfl (Nat.le_of_ble_eq_true rfl) dX3_product_16 ⟨Nat.zero_le _, Nat.zero_le _⟩ (fun r3 H locs h hP hD hS => ?_)
  refine lv_lmul hx hb dX3_product_19 ?_
  refine lv_ladd hx hb dX3_product_20 ?_
  exact hret _ () _ _ _ _ h hP hD hS dX3_product_21
-- X3_aim
def rm_X3_aim : Room := { frames := 4, cells := 0, slots := 0, locals := 89 }
abbrev ws_X3_aim : List Cond := .code yX3_aim cX3_aim 5 none :: wsL_law
theorem cw_RX3_15 {R : Room} {s : State} {args : Array Value} (hts : ∀ w ∈ wsL_law, w.before args s = true) (hR : rm_X3_product.frames + 1 ≤ R.frames ∧ 8 + (4 + 11) + rm_X3_product.locals ≤ R.locals) : CallB R s args RX3 15 yX3_product cX3_product 4 (some .long) ws_X3_product rm_X3_product rm_X3_product.cells rm_X3_product.slots 4 ∧ (Cond.static yX3_product).before args s = true := va_cwS 4 hts (gdS w_33_14 w_33_15 w_2_15 w_33_16) rfl rfl rfl (by decide +kernel) hR
def wp_X3_aim_L8 (post : St → Prop) (K : St → Prop) (a1 : Int32) (a2 : Int32) (a3 : Int32) : Nat → St → Int32 → Prop
  | 0, _, _ => False
  | n8 + 1, t2, v1 => ((24 ≤ v1) → (K t2)) ∧ ((¬ 24 ≤ v1) → (wp_X3_product a1 a2 a3 v1 (fun r4 => wp_X3_product a1 a2 a3 (gI t2 8) (fun r6 => ((r4 ≤ r6) → (∀ x9 : Int32, x9 = v1 + 1 → (wp_X3_aim_L8 post K a1 a2 a3 n8 t2 x9))) ∧ ((¬ r4 ≤ r6) → (∀ x11 : Int32, x11 = v1 + 1 → (wp_X3_aim_L8 post K a1 a2 a3 n8 (sI t2 8 v1) x11)))))))
def wp_X3_aim (st : St) (a1 : Int32) (a2 : Int32) (a3 : Int32) (post : St → Prop) : Prop := ∃ m8 : Nat, wp_X3_aim_L8 post (fun t13 => post t13) a1 a2 a3 m8 (sI st 8 0) 1
set_option maxHeartbeats 4000000 in
set_option maxRecDepth 100000 in
theorem c_X3_aim (l : Launch) (D : va_G) (cy : Nat → ClassId) (tz : Nat → Nat) (ad : Nat → Nat) (st : St) (a1 : Int32) (a2 : Int32) (a3 : Int32) (post : St → Prop) (h : wp_X3_aim st a1 a2 a3 post) : CtV l D cy tz yX3_aim ws_X3_aim rm_X3_aim [.ref (ad 22), .int a1, .int a2, .int a3] (wX cy ad st) (wX cy ad) post := by
  refine CtV.of (own := RX3) (nm := "aim") (lv := [(0, .ref (ad 22)), (1, .int a1), (2, .int a2), (3, .int a3)]) (plainFor_of_name (by decide)) rfl rfl (Nat.le_of_ble_eq_true rfl) rfl ?_
  intro p e s m args below meth c A Q ls B hP hD hS hl hret
  obtain ⟨hx, hb, hml, hown, hts, hK, hZ, hA, hnm⟩ := B
  have SF : CallFix p m c cX3_aim 5 s args wsL_law RX3 := ⟨hx, hb, hml, hown, hts⟩
  unfold wp_X3_aim at h
  refine lv_aload_n hx hb dX3_aim_0 rfl (lv_at hl 0 rfl) ?_
  refine lv_iconst (v := 0) hx hb dX3_aim_1 (by decide) ?_
  refine va_put (D := D) (ci := 3) (v := .int 0) (ty := .int) (C := RX3) (T := TX3) (N := 2) hx hb hts inlX3 tyX3 tyX3_ok nmX3 hown hK hP hD hS 22 rfl rfl 0 (by decide) (hts _ w_33_13) (fun _ h9 => h9) rfl (by decide +kernel) rfl rfl (Nat.le_of_ble_eq_true rfl) dX3_aim_2 (fun H locs hP hD hS => ?_)
  have hP : va_P D vwCl (wX cy ad (sI st 8 0)) H := hP
  have hD : va_D A (wX cy ad (sI st 8 0)) := hD
  refine lv_iconst (v := 1) hx hb dX3_aim_5 (by decide) ?_
  refine lv_istore (lv' := [(4, .int 1), (0, .ref (ad 22)), (1, .int a1), (2, .int a2), (3, .int a3)]) hx hb dX3_aim_6 hl (by decide) rfl (fun ls hl => ?_)
  have loop8 : ∀ (K : St → Prop), (∀ (t13 : St) (H : Heap) (locs : List Loc) (ls : Array Slot), K t13 → va_P D vwCl (wX cy ad t13) H → va_D A (wX cy ad t13) → va_S A s.heap H locs → lv_has ls 5 [] → W p l e rm_X3_aim s m args below meth c H locs 0 0 Q (F0 m 49 ls [])) → ∀ (n : Nat) (t2 : St) (v1 : Int32) (H : Heap) (locs : List Loc) (ls : Array Slot), wp_X3_aim_L8 post K a1 a2 a3 n t2 v1 → va_P D vwCl (wX cy ad t2) H → va_D A (wX cy ad t2) → va_S A s.heap H locs → lv_has ls 5 [(0, .ref (ad 22)), (1, .int a1), (2, .int a2), (3, .int a3), (4, .int v1)] → W p l e rm_X3_aim s m args below meth c H locs 0 0 Q (F0 m 8 ls []) := by
    intro K hE8 n
    induction n with
    | zero => intro t2 v1 H locs ls h; exact h.elim
    | succ n ih8 =>
      intro t2 v1 H locs ls h hP hD hS hl
      rw [wp_X3_aim_L8] at h
      refine lv_iload hx hb dX3_aim_8 (lv_at hl 4 rfl) ?_
      refine lv_bipush (v := 24) hx hb dX3_aim_10 (by decide) ?_
      refine lv_icmp_ge (tgt := 49) hx hb dX3_aim_12 (by decide) (fun c3 => ?_) (fun c3 => ?_)
      · have h := h.1 c3
        exact hE8 _ _ _ _ h hP hD hS (lv_sub hl [] rfl)
      · have h := h.2 c3
        refine lv_iload_n hx hb dX3_aim_15 rfl (lv_at hl 1 rfl) ?_
        refine lv_iload_n hx hb dX3_aim_16 rfl (lv_at hl 2 rfl) ?_
        refine lv_iload_n hx hb dX3_aim_17 rfl (lv_at hl 3 rfl) ?_
        refine lv_iload hx hb dX3_aim_18 (lv_at hl 4 rfl) ?_
        refine callSLr (rest := []) SF (c_X3_product l D cy tz _ a1 a2 a3 v1 _ h) (cw_RX3_15 hts ⟨Nat.le_of_ble_eq_true rfl, Nat.le_of_ble_eq_true rfl⟩) rfl rfl hK hZ hA hP hD hS rfl hl.1 rfl (Nat.le_of_ble_eq_true rfl) dX3_aim_20 ⟨Nat.zero_le _, Nat.zero_le _⟩ (fun r4 H locs h hP hD hS => ?_)
        refine lv_iload_n hx hb dX3_aim_23 rfl (lv_at hl 1 rfl) ?_
        refine lv_iload_n hx hb dX3_aim_24 rfl (lv_at hl 2 rfl) ?_
        refine lv_iload_n hx hb dX3_aim_25 rfl (lv_at hl 3 rfl) ?_
        refine lv_aload_n hx hb dX3_aim_26 rfl (lv_at hl 0 rfl) ?_
        refine va_get (D := D) (ci := 3) (v := .int (gI t2 8)) (C := RX3) (T := TX3) (N := 2) hx hb hts inlX3 hown hK hP 22 rfl rfl 0 (by decide) (hts _ w_33_13) (fun _ h9 => h9) rfl dX3_aim_27 ?_
        refine callSLr (rest := [.long r4]) SF (c_X3_product l D cy tz _ a1 a2 a3 (gI t2 8) _ h) (cw_RX3_15 hts ⟨Nat.le_of_ble_eq_true rfl, Nat.le_of_ble_eq_true rfl⟩) rfl rfl hK hZ hA hP hD hS rfl hl.1 rfl (Nat.le_of_ble_eq_true rfl) dX3_aim_30 ⟨Nat.zero_le _, Nat.zero_le _⟩ (fun r6 H locs h hP hD hS => ?_)
        refine W.lcmp hx hb dX3_aim_33 ?_
        refine lv_if_le (tgt := 43) hx hb dX3_aim_34 (by decide) (fun c8 => ?_) (fun c8 => ?_)
        · have h := h.1 ((lg_cmp_le _ _).mp c8)
          obtain ⟨x9, e10⟩ : ∃ z : Int32, z = v1 + 1 := ⟨_, rfl⟩
          have h := h x9 e10
          refine lv_iinc (v := x9) (lv' := [(4, .int x9), (0, .ref (ad 22)), (1, .int a1), (2, .int a2), (3, .int a3)]) hx hb dX3_aim_43 hl (k := 4) rfl (by rw [e10]; rfl) (by decide) rfl (fun ls hl => ?_)
          refine lv_goto (tgt := 8) hx hb dX3_aim_46 (by decide) ?_
          exact ih8 _ _ _ _ _ h hP hD hS (lv_sub hl [1, 2, 3, 4, 0] rfl)
        · have h := h.2 (fun z => c8 ((lg_cmp_le _ _).mpr z))
          refine lv_aload_n hx hb dX3_aim_37 rfl (lv_at hl 0 rfl) ?_
          refine lv_iload hx hb dX3_aim_38 (lv_at hl 4 rfl) ?_
          refine va_put (D := D) (ci := 3) (v := .int v1) (ty := .int) (C := RX3) (T := TX3) (N := 2) hx hb hts inlX3 tyX3 tyX3_ok nmX3 hown hK hP hD hS 22 rfl rfl 0 (by decide) (hts _ w_33_13) (fun _ h9 => h9) rfl (by decide +kernel) rfl rfl (Nat.le_of_ble_eq_true rfl) dX3_aim_40 (fun H locs hP hD hS => ?_)
          have hP : va_P D vwCl (wX cy ad (sI t2 8 v1)) H := hP
          have hD : va_D A (wX cy ad (sI t2 8 v1)) := hD
          obtain ⟨x11, e12⟩ : ∃ z : Int32, z = v1 + 1 := ⟨_, rfl⟩
          have h := h x11 e12
          refine lv_iinc (v := x11) (lv' := [(4, .int x11), (0, .ref (ad 22)), (1, .int a1), (2, .int a2), (3, .int a3)]) hx hb dX3_aim_43 hl (k := 4) rfl (by rw [e12]; rfl) (by decide) rfl (fun ls hl => ?_)
          refine lv_goto (tgt := 8) hx hb dX3_aim_46 (by decide) ?_
          exact ih8 _ _ _ _ _ h hP hD hS (lv_sub hl [1, 2, 3, 4, 0] rfl)
  obtain ⟨n, h⟩ := h
  refine loop8 _ ?_ n _ _ _ _ _ h hP hD hS (lv_sub hl [1, 2, 3, 4, 0] rfl)
  intro t13 H locs ls h hP hD hS hl
  exact hret _ _ _ _ _ h hP hD hS dX3_aim_49
-- X3_practise
def rm_X3_practise : Room := { frames := 4, cells := 0, slots := 0, locals := 88 }
abbrev ws_X3_practise : List Cond := .code yX3_practise cX3_practise 7 (some .boolean) :: wsL_law
theorem cw_RX3_31 {R : Room} {s : State} {args : Array Value} (hts : ∀ w ∈ wsL_law, w.before args s = true) (hR : rm_X0_throwAnew.frames + 1 ≤ R.frames ∧ 8 + (3 + 11) + rm_X0_throwAnew.locals ≤ R.locals) : CallW R s args RX3 RX0 31 yX0_throwAnew cX0_throwAnew 3 none ws_X0_throwAnew rm_X0_throwAnew rm_X0_throwAnew.cells rm_X0_throwAnew.slots 2 := cwV 2 hts (gdV w_34_4 w_17_1 w_17_2 w_2_3 w_17_3) rfl rfl rfl (by decide +kernel) hR
theorem cw_RX3_37 {R : Room} {s : State} {args : Array Value} (hts : ∀ w ∈ wsL_law, w.before args s = true) (hR : rm_X0_tickCaught.frames + 1 ≤ R.frames ∧ 8 + (4 + 11) + rm_X0_tickCaught.locals ≤ R.locals) : CallW R s args RX3 RX0 37 yX0_tickCaught cX0_tickCaught 4 (some .int) ws_X0_tickCaught rm_X0_tickCaught rm_X0_tickCaught.cells rm_X0_tickCaught.slots 2 := cwV 2 hts (gdV w_34_5 w_19_15 w_19_16 w_2_3 w_19_17) rfl rfl rfl (by decide +kernel) hR
theorem cw_RX3_41 {R : Room} {s : State} {args : Array Value} (hts : ∀ w ∈ wsL_law, w.before args s = true) (hR : rm_X0_tickNearest.frames + 1 ≤ R.frames ∧ 8 + (8 + 11) + rm_X0_tickNearest.locals ≤ R.locals) : CallW R s args RX3 RX0 41 yX0_tickNearest cX0_tickNearest 8 (some .int) ws_X0_tickNearest rm_X0_tickNearest rm_X0_tickNearest.cells rm_X0_tickNearest.slots 1 := cwV 1 hts (gdV w_34_6 w_34_7 w_34_8 w_2_3 w_34_9) rfl rfl rfl (by decide +kernel) hR
theorem cw_RX3_45 {R : Room} {s : State} {args : Array Value} (hts : ∀ w ∈ wsL_law, w.before args s = true) (hR : rm_X0_isRightOf.frames + 1 ≤ R.frames ∧ 8 + (3 + 11) + rm_X0_isRightOf.locals ≤ R.locals) : CallW R s args RX3 RX0 45 yX0_isRightOf cX0_isRightOf 3 (some .boolean) ws_X0_isRightOf rm_X0_isRightOf rm_X0_isRightOf.cells rm_X0_isRightOf.slots 2 := cwV 2 hts (gdV w_34_10 w_34_11 w_34_12 w_2_3 w_34_13) rfl rfl rfl (by decide +kernel) hR
theorem cw_RX3_49 {R : Room} {s : State} {args : Array Value} (hts : ∀ w ∈ wsL_law, w.before args s = true) (hR : rm_J9_floorMod_7cf53.frames + 1 ≤ R.frames ∧ 8 + (3 + 11) + rm_J9_floorMod_7cf53.locals ≤ R.locals) : CallB R s args RX3 49 yJ9_floorMod_7cf53 cJ9_floorMod_7cf53 3 (some .int) ws_J9_floorMod_7cf53 rm_J9_floorMod_7cf53 rm_J9_floorMod_7cf53.cells rm_J9_floorMod_7cf53.slots 2 ∧ (Cond.static yJ9_floorMod_7cf53).before args s = true := va_cwS 2 hts (gdS w_34_14 w_11_10 w_11_11 w_11_12) rfl rfl rfl (by decide +kernel) hR
def wp_X3_practise_L3 (post : Int32 → St → Prop) (K : St → Prop) (a2 : Int32) (a4 : Int32) : Nat → St → Int32 → Prop
  | 0, _, _ => False
  | n3 + 1, t2, v1 => ((24 < v1) → (K t2)) ∧ ((¬ 24 < v1) → (wp_X0_throwAnew (sI t2 9 v1) a2 (gI t2 8) (fun t5 => wp_X0_tickCaught t5 a4 (fun r6 => ((r6 = (-6)) → (wp_X0_tickNearest t5 (fun r9 => wp_X0_isRightOf t5 r9 (fun r11 => ((r11 = 0) → (wp_J9_floorMod_7cf53 (gI t5 8 + (-1)) 24 (fun r14 => ∀ x16 : Int32, x16 = v1 + 1 → (wp_X3_practise_L3 post K a2 a4 n3 (sI t5 8 r14) x16)))) ∧ ((¬ r11 = 0) → (wp_J9_floorMod_7cf53 (gI t5 8 + 1) 24 (fun r18 => ∀ x20 : Int32, x20 = v1 + 1 → (wp_X3_practise_L3 post K a2 a4 n3 (sI t5 8 r18) x20)))))))) ∧ ((¬ r6 = (-6)) → (post 1 t5))))))
def wp_X3_practise (st : St) (a2 : Int32) (a4 : Int32) (post : Int32 → St → Prop) : Prop := ∃ m3 : Nat, wp_X3_practise_L3 post (fun t22 => post 0 t22) a2 a4 m3 st 1
set_option maxHeartbeats 4000000 in
set_option maxRecDepth 100000 in
theorem c_X3_practise (l : Launch) (D : va_G) (cy : Nat → ClassId) (tz : Nat → Nat) (ad : Nat → Nat) (st : St) (a2 : Int32) (a4 : Int32) (post : Int32 → St → Prop) (h : wp_X3_practise st a2 a4 post) : CtI l D cy tz yX3_practise ws_X3_practise rm_X3_practise [.ref (ad 22), .ref (ad 16), .int a2, .ref (ad 17), .int a4] (wX cy ad st) (wX cy ad) post := by
  refine CtI.of (own := RX3) (nm := "practise") (lv := [(0, .ref (ad 22)), (1, .ref (ad 16)), (2, .int a2), (3, .ref (ad 17)), (4, .int a4)]) (plainFor_of_name (by decide)) rfl rfl (Nat.le_of_ble_eq_true rfl) rfl ?_
  intro p e s m args below meth c A Q ls B hP hD hS hl hret
  obtain ⟨hx, hb, hml, hown, hts, hK, hZ, hA, hnm⟩ := B
  have SF : CallFix p m c cX3_practise 7 s args wsL_law RX3 := ⟨hx, hb, hml, hown, hts⟩
  unfold wp_X3_practise at h
  refine lv_iconst (v := 1) hx hb dX3_practise_0 (by decide) ?_
  refine lv_istore (lv' := [(5, .int 1), (0, .ref (ad 22)), (1, .ref (ad 16)), (2, .int a2), (3, .ref (ad 17)), (4, .int a4)]) hx hb dX3_practise_1 hl (by decide) rfl (fun ls hl => ?_)
  have loop3 : ∀ (K : St → Prop), (∀ (t22 : St) (H : Heap) (locs : List Loc) (ls : Array Slot), K t22 → va_P D vwCl (wX cy ad t22) H → va_D A (wX cy ad t22) → va_S A s.heap H locs → lv_has ls 7 [] → W p l e rm_X3_practise s m args below meth c H locs 0 0 Q (F0 m 81 ls [])) → ∀ (n : Nat) (t2 : St) (v1 : Int32) (H : Heap) (locs : List Loc) (ls : Array Slot), wp_X3_practise_L3 post K a2 a4 n t2 v1 → va_P D vwCl (wX cy ad t2) H → va_D A (wX cy ad t2) → va_S A s.heap H locs → lv_has ls 7 [(0, .ref (ad 22)), (1, .ref (ad 16)), (2, .int a2), (3, .ref (ad 17)), (4, .int a4), (5, .int v1)] → W p l e rm_X3_practise s m args below meth c H locs 0 0 Q (F0 m 3 ls []) := by
    intro K hE3 n
    induction n with
    | zero => intro t2 v1 H locs ls h; exact h.elim
    | succ n ih3 =>
      intro t2 v1 H locs ls h hP hD hS hl
      rw [wp_X3_practise_L3] at h
      refine lv_iload hx hb dX3_practise_3 (lv_at hl 5 rfl) ?_
      refine lv_bipush (v := 24) hx hb dX3_practise_5 (by decide) ?_
      refine lv_icmp_gt (tgt := 81) hx hb dX3_practise_7 (by decide) (fun c3 => ?_) (fun c3 => ?_)
      · have h := h.1 c3
        exact hE3 _ _ _ _ h hP hD hS (lv_sub hl [] rfl)
      · have h := h.2 c3
        refine lv_aload_n hx hb dX3_practise_10 rfl (lv_at hl 0 rfl) ?_
        refine lv_iload hx hb dX3_practise_11 (lv_at hl 5 rfl) ?_
        refine va_put (D := D) (ci := 3) (v := .int v1) (ty := .int) (C := RX3) (T := TX3) (N := 2) hx hb hts inlX3 tyX3 tyX3_ok nmX3 hown hK hP hD hS 22 rfl rfl 1 (by decide) (hts _ w_34_3) (fun _ h9 => h9) rfl (by decide +kernel) rfl rfl (Nat.le_of_ble_eq_true rfl) dX3_practise_13 (fun H locs hP hD hS => ?_)
        have hP : va_P D vwCl (wX cy ad (sI t2 9 v1)) H := hP
        have hD : va_D A (wX cy ad (sI t2 9 v1)) := hD
        refine lv_aload_n hx hb dX3_practise_16 rfl (lv_at hl 1 rfl) ?_
        refine lv_iload_n hx hb dX3_practise_17 rfl (lv_at hl 2 rfl) ?_
        refine lv_aload_n hx hb dX3_practise_18 rfl (lv_at hl 0 rfl) ?_
        refine va_get (D := D) (ci := 3) (v := .int (gI t2 8)) (C := RX3) (T := TX3) (N := 2) hx hb hts inlX3 hown hK hP 22 rfl rfl 0 (by decide) (hts _ w_33_13) (fun _ h9 => h9) rfl dX3_practise_19 ?_
        refine callVV (rest := []) SF (c_X0_throwAnew l D cy tz ad (sI t2 9 v1) a2 (gI t2 8) _ h) (cw_RX3_31 hts ⟨Nat.le_of_ble_eq_true rfl, Nat.le_of_ble_eq_true rfl⟩) rfl rfl (va_recv hK hP (ci := 0) (q0 := 16) rfl rfl) hK hZ hA hP hD hS rfl hl.1 rfl (Nat.le_of_ble_eq_true rfl) dX3_practise_22 ⟨Nat.zero_le _, Nat.zero_le _⟩ (fun t5 H locs h hP hD hS => ?_)
        refine lv_aload_n hx hb dX3_practise_25 rfl (lv_at hl 1 rfl) ?_
        refine lv_aload_n hx hb dX3_practise_26 rfl (lv_at hl 3 rfl) ?_
        refine lv_iload hx hb dX3_practise_27 (lv_at hl 4 rfl) ?_
        refine callVIr (rest := []) SF (c_X0_tickCaught l D cy tz ad t5 a4 _ h) (cw_RX3_37 hts ⟨Nat.le_of_ble_eq_true rfl, Nat.le_of_ble_eq_true rfl⟩) rfl rfl (va_recv hK hP (ci := 0) (q0 := 16) rfl rfl) hK hZ hA hP hD hS rfl hl.1 rfl (Nat.le_of_ble_eq_true rfl) dX3_practise_29 ⟨Nat.zero_le _, Nat.zero_le _⟩ (fun r6 H locs h hP hD hS => ?_)
        refine lv_bipush (v := (-6)) hx hb dX3_practise_32 (by decide) ?_
        refine lv_icmp_eq (tgt := 39) hx hb dX3_practise_34 (by decide) (fun c8 => ?_) (fun c8 => ?_)
        · have h := h.1 c8
          refine lv_aload_n hx hb dX3_practise_39 rfl (lv_at hl 1 rfl) ?_
          refine lv_aload_n hx hb dX3_practise_40 rfl (lv_at hl 3 rfl) ?_
          refine lv_aload_n hx hb dX3_practise_41 rfl (lv_at hl 1 rfl) ?_
          refine lv_aload_n hx hb dX3_practise_42 rfl (lv_at hl 3 rfl) ?_
          refine callVIr (rest := [.ref (ad 17), .ref (ad 16)]) SF (c_X0_tickNearest l D cy tz ad t5 _ h) (cw_RX3_41 hts ⟨Nat.le_of_ble_eq_true rfl, Nat.le_of_ble_eq_true rfl⟩) rfl rfl (va_recv hK hP (ci := 0) (q0 := 16) rfl rfl) hK hZ hA hP hD hS rfl hl.1 rfl (Nat.le_of_ble_eq_true rfl) dX3_practise_43 ⟨Nat.zero_le _, Nat.zero_le _⟩ (fun r9 H locs h hP hD hS => ?_)
          refine callVIr (rest := []) SF (c_X0_isRightOf l D cy tz ad t5 r9 _ h) (cw_RX3_45 hts ⟨Nat.le_of_ble_eq_true rfl, Nat.le_of_ble_eq_true rfl⟩) rfl rfl (va_recv hK hP (ci := 0) (q0 := 16) rfl rfl) hK hZ hA hP hD hS rfl hl.1 rfl (Nat.le_of_ble_eq_true rfl) dX3_practise_46 ⟨Nat.zero_le _, Nat.zero_le _⟩ (fun r11 H locs h hP hD hS => ?_)
          refine lv_if_eq (tgt := 56) hx hb dX3_practise_49 (by decide) (fun c13 => ?_) (fun c13 => ?_)
          · have h := h.1 c13
            refine lv_iconst (v := (-1)) hx hb dX3_practise_56 (by decide) ?_
            refine lv_istore (lv' := [(6, .int (-1)), (0, .ref (ad 22)), (1, .ref (ad 16)), (2, .int a2), (3, .ref (ad 17)), (4, .int a4), (5, .int v1)]) hx hb dX3_practise_57 hl (by decide) rfl (fun ls hl => ?_)
            refine lv_aload_n hx hb dX3_practise_59 rfl (lv_at hl 1 rfl) ?_
            refine lv_aload_n hx hb dX3_practise_60 rfl (lv_at hl 1 rfl) ?_
            refine va_get (D := D) (ci := 3) (v := .int (gI t5 8)) (C := RX3) (T := TX3) (N := 2) hx hb hts inlX3 hown hK hP 22 rfl rfl 0 (by decide) (hts _ w_33_13) (fun _ h9 => h9) rfl dX3_practise_61 ?_
            refine lv_iload hx hb dX3_practise_64 (lv_at hl 0 rfl) ?_
            refine lv_iadd hx hb dX3_practise_66 ?_
            refine lv_bipush (v := 24) hx hb dX3_practise_67 (by decide) ?_
            refine callSIr (rest := [.ref (ad 22)]) SF (c_J9_floorMod_7cf53 l D cy tz _ (gI t5 8 + (-1)) 24 _ h) (cw_RX3_49 hts ⟨Nat.le_of_ble_eq_true rfl, Nat.le_of_ble_eq_true rfl⟩) rfl rfl hK hZ hA hP hD hS rfl hl.1 rfl (Nat.le_of_ble_eq_true rfl) dX3_practise_69 ⟨Nat.zero_le _, Nat.zero_le _⟩ (fun r14 H locs h hP hD hS => ?_)
            refine va_put (D := D) (ci := 3) (v := .int r14) (ty := .int) (C := RX3) (T := TX3) (N := 2) hx hb hts inlX3 tyX3 tyX3_ok nmX3 hown hK hP hD hS 22 rfl rfl 0 (by decide) (hts _ w_33_13) (fun _ h9 => h9) rfl (by decide +kernel) rfl rfl (Nat.le_of_ble_eq_true rfl) dX3_practise_72 (fun H locs hP hD hS => ?_)
            have hP : va_P D vwCl (wX cy ad (sI t5 8 r14)) H := hP
            have hD : va_D A (wX cy ad (sI t5 8 r14)) := hD
            obtain ⟨x16, e17⟩ : ∃ z : Int32, z = v1 + 1 := ⟨_, rfl⟩
            have h := h x16 e17
            refine lv_iinc (v := x16) (lv' := [(5, .int x16), (6, .int (-1)), (0, .ref (ad 22)), (1, .ref (ad 16)), (2, .int a2), (3, .ref (ad 17)), (4, .int a4)]) hx hb dX3_practise_75 hl (k := 6) rfl (by rw [e17]; rfl) (by decide) rfl (fun ls hl => ?_)
            refine lv_goto (tgt := 3) hx hb dX3_practise_78 (by decide) ?_
            exact ih3 _ _ _ _ _ h hP hD hS (lv_sub hl [2, 3, 4, 5, 6, 0] rfl)
          · have h := h.2 c13
            refine lv_iconst (v := 1) hx hb dX3_practise_52 (by decide) ?_
            refine lv_goto (tgt := 57) hx hb dX3_practise_53 (by decide) ?_
            refine lv_istore (lv' := [(6, .int 1), (0, .ref (ad 22)), (1, .ref (ad 16)), (2, .int a2), (3, .ref (ad 17)), (4, .int a4), (5, .int v1)]) hx hb dX3_practise_57 hl (by decide) rfl (fun ls hl => ?_)
            refine lv_aload_n hx hb dX3_practise_59 rfl (lv_at hl 1 rfl) ?_
            refine lv_aload_n hx hb dX3_practise_60 rfl (lv_at hl 1 rfl) ?_
            refine va_get (D := D) (ci := 3) (v := .int (gI t5 8)) (C := RX3) (T := TX3) (N := 2) hx hb hts inlX3 hown hK hP 22 rfl rfl 0 (by decide) (hts _ w_33_13) (fun _ h9 => h9) rfl dX3_practise_61 ?_
            refine lv_iload hx hb dX3_practise_64 (lv_at hl 0 rfl) ?_
            refine lv_iadd hx hb dX3_practise_66 ?_
            refine lv_bipush (v := 24) hx hb dX3_practise_67 (by decide) ?_
            refine callSIr (rest := [.ref (ad 22)]) SF (c_J9_floorMod_7cf53 l D cy tz _ (gI t5 8 + 1) 24 _ h) (cw_RX3_49 hts ⟨Nat.le_of_ble_eq_true rfl, Nat.le_of_ble_eq_true rfl⟩) rfl rfl hK hZ hA hP hD hS rfl hl.1 rfl (Nat.le_of_ble_eq_true rfl) dX3_practise_69 ⟨Nat.zero_le _, Nat.zero_le _⟩ (fun r18 H locs h hP hD hS => ?_)
            refine va_put (D := D) (ci := 3) (v := .int r18) (ty := .int) (C := RX3) (T := TX3) (N := 2) hx hb hts inlX3 tyX3 tyX3_ok nmX3 hown hK hP hD hS 22 rfl rfl 0 (by decide) (hts _ w_33_13) (fun _ h9 => h9) rfl (by decide +kernel) rfl rfl (Nat.le_of_ble_eq_true rfl) dX3_practise_72 (fun H locs hP hD hS => ?_)
            have hP : va_P D vwCl (wX cy ad (sI t5 8 r18)) H := hP
            have hD : va_D A (wX cy ad (sI t5 8 r18)) := hD
            obtain ⟨x20, e21⟩ : ∃ z : Int32, z = v1 + 1 := ⟨_, rfl⟩
            have h := h x20 e21
            refine lv_iinc (v := x20) (lv' := [(5, .int x20), (6, .int 1), (0, .ref (ad 22)), (1, .ref (ad 16)), (2, .int a2), (3, .ref (ad 17)), (4, .int a4)]) hx hb dX3_practise_75 hl (k := 6) rfl (by rw [e21]; rfl) (by decide) rfl (fun ls hl => ?_)
            refine lv_goto (tgt := 3) hx hb dX3_practise_78 (by decide) ?_
            exact ih3 _ _ _ _ _ h hP hD hS (lv_sub hl [2, 3, 4, 5, 6, 0] rfl)
        · have h := h.2 c8
          refine lv_iconst (v := 1) hx hb dX3_practise_37 (by decide) ?_
          exact hret _ _ _ _ _ _ rfl h hP hD hS dX3_practise_38
  obtain ⟨n, h⟩ := h
  refine loop3 _ ?_ n _ _ _ _ _ h hP hD hS (lv_sub hl [1, 2, 3, 4, 5, 0] rfl)
  intro t22 H locs ls h hP hD hS hl
  refine lv_iconst (v := 0) hx hb dX3_practise_81 (by decide) ?_
  exact hret _ _ _ _ _ _ rfl h hP hD hS dX3_practise_82
-- X4_add
def rm_X4_add : Room := { frames := 0, cells := 0, slots := 0, locals := 0 }
abbrev ws_X4_add : List Cond := .code yX4_add cX4_add 2 (some .boolean) :: wsL_law
def wp_X4_add (st : St) (a1 : Int32) (post : Int32 → St → Prop) : Prop := ((gI st 0 < 40) → (vp_in (gI st 0) 40 ∧ (∀ x2 : Int32, x2 = (gI st 0 + 1) → (post 1 (sI (sA st 0 (upd (gA st 0) (gI st 0).toNatClampNeg a1)) 0 x2))))) ∧ ((¬ gI st 0 < 40) → (post 0 st))
set_option maxHeartbeats 4000000 in
set_option maxRecDepth 100000 in
theorem c_X4_add (l : Launch) (D : va_G) (cy : Nat → ClassId) (tz : Nat → Nat) (ad : Nat → Nat) (st : St) (a1 : Int32) (post : Int32 → St → Prop) (h : wp_X4_add st a1 post) : CtI l D cy tz yX4_add ws_X4_add rm_X4_add [.ref (ad 1), .int a1] (wX cy ad st) (wX cy ad) post := by
  refine CtI.of (own := RX4) (nm := "add") (lv := [(0, .ref (ad 1)), (1, .int a1)]) (plainFor_of_name (by decide)) rfl rfl (Nat.le_of_ble_eq_true rfl) rfl ?_
  intro p e s m args below meth c A Q ls B hP hD hS hl hret
  obtain ⟨hx, hb, hml, hown, hts, hK, hZ, hA, hnm⟩ := B
  have SF : CallFix p m c cX4_add 2 s args wsL_law RX4 := ⟨hx, hb, hml, hown, hts⟩
  unfold wp_X4_add at h
  refine lv_aload_n hx hb dX4_add_0 rfl (lv_at hl 0 rfl) ?_
  refine va_get (D := D) (ci := 4) (v := .int (gI st 0)) (C := RX4) (T := TX4) (N := 2) hx hb hts inlX4 hown hK hP 1 rfl rfl 1 (by decide) (hts _ w_7_11) (fun _ h9 => h9) rfl dX4_add_1 ?_
  refine lv_bipush (v := 40) hx hb dX4_add_4 (by decide) ?_
  refine lv_icmp_lt (tgt := 11) hx hb dX4_add_6 (by decide) (fun c1 => ?_) (fun c1 => ?_)
  · have h := h.1 c1
    refine lv_aload_n hx hb dX4_add_11 rfl (lv_at hl 0 rfl) ?_
    refine va_get (D := D) (ci := 4) (v := .ref (ad 2)) (C := RX4) (T := TX4) (N := 2) hx hb hts inlX4 hown hK hP 1 rfl rfl 0 (by decide) (hts _ w_2_21) (fun _ h9 => h9) rfl dX4_add_12 ?_
    refine lv_aload_n hx hb dX4_add_15 rfl (lv_at hl 0 rfl) ?_
    refine va_get (D := D) (ci := 4) (v := .int (gI st 0)) (C := RX4) (T := TX4) (N := 2) hx hb hts inlX4 hown hK hP 1 rfl rfl 1 (by decide) (hts _ w_7_11) (fun _ h9 => h9) rfl dX4_add_16 ?_
    refine lv_iload_n hx hb dX4_add_19 rfl (lv_at hl 1 rfl) ?_
    refine va_iast (f := gA st 0) (n := 40) hx hb hK hP hD hS 2 0 rfl rfl h.1 dX4_add_20 (fun H locs hP hD hS => ?_)
    have h := h.2
    have hP : va_P D vwCl (wX cy ad (sA st 0 (upd (gA st 0) (gI st 0).toNatClampNeg a1))) H := hP
    have hD : va_D A (wX cy ad (sA st 0 (upd (gA st 0) (gI st 0).toNatClampNeg a1))) := hD
    refine lv_aload_n hx hb dX4_add_21 rfl (lv_at hl 0 rfl) ?_
    refine lv_dup hx hb dX4_add_22 rfl ?_
    refine va_get (D := D) (ci := 4) (v := .int (gI st 0)) (C := RX4) (T := TX4) (N := 2) hx hb hts inlX4 hown hK hP 1 rfl rfl 1 (by decide) (hts _ w_7_11) (fun _ h9 => h9) rfl dX4_add_23 ?_
    refine lv_iconst (v := 1) hx hb dX4_add_26 (by decide) ?_
    refine lv_iadd hx hb dX4_add_27 ?_
    refine lv_topi (fun x2 e3 => ?_)
    have h := h x2 e3
    refine va_put (D := D) (ci := 4) (v := .int x2) (ty := .int) (C := RX4) (T := TX4) (N := 2) hx hb hts inlX4 tyX4 tyX4_ok nmX4 hown hK hP hD hS 1 rfl rfl 1 (by decide) (hts _ w_7_11) (fun _ h9 => h9) rfl (by decide +kernel) rfl rfl (Nat.le_of_ble_eq_true rfl) dX4_add_28 (fun H locs hP hD hS => ?_)
    have hP : va_P D vwCl (wX cy ad (sI (sA st 0 (upd (gA st 0) (gI st 0).toNatClampNeg a1)) 0 x2)) H := hP
    have hD : va_D A (wX cy ad (sI (sA st 0 (upd (gA st 0) (gI st 0).toNatClampNeg a1)) 0 x2)) := hD
    refine lv_iconst (v := 1) hx hb dX4_add_31 (by decide) ?_
    exact hret _ _ _ _ _ _ rfl h hP hD hS dX4_add_32
  · have h := h.2 c1
    refine lv_iconst (v := 0) hx hb dX4_add_9 (by decide) ?_
    exact hret _ _ _ _ _ _ rfl h hP hD hS dX4_add_10
-- X4_isDigit
def rm_X4_isDigit : Room := { frames := 0, cells := 0, slots := 0, locals := 0 }
abbrev ws_X4_isDigit : List Cond := .code yX4_isDigit cX4_isDigit 1 (some .boolean) :: wsL_law
def wp_X4_isDigit (a1 : Int32) (post : Int32 → Prop) : Prop := ((a1 < 48) → (post 0)) ∧ ((¬ a1 < 48) → (((57 < a1) → (post 0)) ∧ ((¬ 57 < a1) → (post 1))))
set_option maxHeartbeats 4000000 in
set_option maxRecDepth 100000 in
theorem c_X4_isDigit (l : Launch) (D : va_G) (cy : Nat → ClassId) (tz : Nat → Nat) (w : va_W) (a1 : Int32) (post : Int32 → Prop) (h : wp_X4_isDigit a1 post) : CtI l D cy tz yX4_isDigit ws_X4_isDigit rm_X4_isDigit [.int a1] w (fun _ : Unit => w) (fun r _ => post r) := by
  refine CtI.of (own := RX4) (nm := "isDigit") (lv := [(0, .int a1)]) (plainFor_of_name (by decide)) rfl rfl (Nat.le_of_ble_eq_true rfl) rfl ?_
  intro p e s m args below meth c A Q ls B hP hD hS hl hret
  obtain ⟨hx, hb, hml, hown, hts, hK, hZ, hA, hnm⟩ := B
  have SF : CallFix p m c cX4_isDigit 1 s args wsL_law RX4 := ⟨hx, hb, hml, hown, hts⟩
  unfold wp_X4_isDigit at h
  refine lv_iload_n hx hb dX4_isDigit_0 rfl (lv_at hl 0 rfl) ?_
  refine lv_bipush (v := 48) hx hb dX4_isDigit_1 (by decide) ?_
  refine lv_icmp_lt (tgt := 16) hx hb dX4_isDigit_3 (by decide) (fun c1 => ?_) (fun c1 => ?_)
  · have h := h.1 c1
    refine lv_iconst (v := 0) hx hb dX4_isDigit_16 (by decide) ?_
    exact hret _ () _ _ _ _ rfl h hP hD hS dX4_isDigit_17
  · have h := h.2 c1
    refine lv_iload_n hx hb dX4_isDigit_6 rfl (lv_at hl 0 rfl) ?_
    refine lv_bipush (v := 57) hx hb dX4_isDigit_7 (by decide) ?_
    refine lv_icmp_gt (tgt := 16) hx hb dX4_isDigit_9 (by decide) (fun c2 => ?_) (fun c2 => ?_)
    · have h := h.1 c2
      refine lv_iconst (v := 0) hx hb dX4_isDigit_16 (by decide) ?_
      exact hret _ () _ _ _ _ rfl h hP hD hS dX4_isDigit_17
    · have h := h.2 c2
      refine lv_iconst (v := 1) hx hb dX4_isDigit_12 (by decide) ?_
      refine lv_goto (tgt := 17) hx hb dX4_isDigit_13 (by decide) ?_
      exact hret _ () _ _ _ _ rfl h hP hD hS dX4_isDigit_17
-- X4_behind
def rm_X4_behind : Room := { frames := 1, cells := 0, slots := 0, locals := 20 }
abbrev ws_X4_behind : List Cond := .code yX4_behind cX4_behind 3 (some .int) :: wsL_law
theorem cw_RX4_23 {R : Room} {s : State} {args : Array Value} (hts : ∀ w ∈ wsL_law, w.before args s = true) (hR : rm_X4_isDigit.frames + 1 ≤ R.frames ∧ 8 + (1 + 11) + rm_X4_isDigit.locals ≤ R.locals) : CallB R s args RX4 23 yX4_isDigit cX4_isDigit 1 (some .boolean) ws_X4_isDigit rm_X4_isDigit rm_X4_isDigit.cells rm_X4_isDigit.slots 1 ∧ (Cond.static yX4_isDigit).before args s = true := va_cwS 1 hts (gdS w_8_14 w_8_15 w_1_14 w_8_16) rfl rfl rfl (by decide +kernel) hR
def wp_X4_behind (a1 : Int32) (a2 : Int32) (post : Int32 → Prop) : Prop := wp_X4_isDigit a2 (fun r1 => ((¬ a1 = 1) → (((¬ a1 = 2) → (((¬ a1 = 3) → (((¬ a2 = 46) → (((a2 = 43) → (post 2)) ∧ ((¬ a2 = 43) → (((¬ a2 = 45) → (post (-1))) ∧ ((a2 = 45) → (post 2)))))) ∧ ((a2 = 46) → (post 1)))) ∧ ((a1 = 3) → (((r1 = 0) → (((¬ a2 = 46) → (((a2 = 43) → (post 2)) ∧ ((¬ a2 = 43) → (((¬ a2 = 45) → (post (-1))) ∧ ((a2 = 45) → (post 2)))))) ∧ ((a2 = 46) → (post 1)))) ∧ ((¬ r1 = 0) → (post 0)))))) ∧ ((a1 = 2) → (((r1 = 0) → (post (-1))) ∧ ((¬ r1 = 0) → (post 3)))))) ∧ ((a1 = 1) → (((r1 = 0) → (post (-1))) ∧ ((¬ r1 = 0) → (((a2 = 48) → (post (-1))) ∧ ((¬ a2 = 48) → (post 0)))))))
set_option maxHeartbeats 4000000 in
set_option maxRecDepth 100000 in
theorem c_X4_behind (l : Launch) (D : va_G) (cy : Nat → ClassId) (tz : Nat → Nat) (w : va_W) (a1 : Int32) (a2 : Int32) (post : Int32 → Prop) (h : wp_X4_behind a1 a2 post) : CtI l D cy tz yX4_behind ws_X4_behind rm_X4_behind [.int a1, .int a2] w (fun _ : Unit => w) (fun r _ => post r) := by
  refine CtI.of (own := RX4) (nm := "behind") (lv := [(0, .int a1), (1, .int a2)]) (plainFor_of_name (by decide)) rfl rfl (Nat.le_of_ble_eq_true rfl) rfl ?_
  intro p e s m args below meth c A Q ls B hP hD hS hl hret
  obtain ⟨hx, hb, hml, hown, hts, hK, hZ, hA, hnm⟩ := B
  have SF : CallFix p m c cX4_behind 3 s args wsL_law RX4 := ⟨hx, hb, hml, hown, hts⟩
  unfold wp_X4_behind at h
  refine lv_iload_n hx hb dX4_behind_0 rfl (lv_at hl 1 rfl) ?_
  refine callSIr (rest := []) SF (c_X4_isDigit l D cy tz _ a2 _ h) (cw_RX4_23 hts ⟨Nat.le_of_ble_eq_true rfl, Nat.le_of_ble_eq_true rfl⟩) rfl rfl hK hZ hA hP hD hS rfl hl.1 rfl (Nat.le_of_ble_eq_true rfl) dX4_behind_1 ⟨Nat.zero_le _, Nat.zero_le _⟩ (fun r1 H locs h hP hD hS => ?_)
  refine lv_istore_n (lv' := [(2, .int r1), (0, .int a1), (1, .int a2)]) hx hb dX4_behind_4 rfl hl (by decide) rfl (fun ls hl => ?_)
  refine lv_iload_n hx hb dX4_behind_5 rfl (lv_at hl 1 rfl) ?_
  refine lv_iconst (v := 1) hx hb dX4_behind_6 (by decide) ?_
  refine lv_icmp_ne (tgt := 26) hx hb dX4_behind_7 (by decide) (fun c3 => ?_) (fun c3 => ?_)
  · have h := h.1 c3
    refine lv_iload_n hx hb dX4_behind_26 rfl (lv_at hl 1 rfl) ?_
    refine lv_iconst (v := 2) hx hb dX4_behind_27 (by decide) ?_
    refine lv_icmp_ne (tgt := 41) hx hb dX4_behind_28 (by decide) (fun c4 => ?_) (fun c4 => ?_)
    · have h := h.1 c4
      refine lv_iload_n hx hb dX4_behind_41 rfl (lv_at hl 1 rfl) ?_
      refine lv_iconst (v := 3) hx hb dX4_behind_42 (by decide) ?_
      refine lv_icmp_ne (tgt := 52) hx hb dX4_behind_43 (by decide) (fun c5 => ?_) (fun c5 => ?_)
      · have h := h.1 c5
        refine lv_iload_n hx hb dX4_behind_52 rfl (lv_at hl 2 rfl) ?_
        refine lv_bipush (v := 46) hx hb dX4_behind_53 (by decide) ?_
        refine lv_icmp_ne (tgt := 60) hx hb dX4_behind_55 (by decide) (fun c6 => ?_) (fun c6 => ?_)
        · have h := h.1 c6
          refine lv_iload_n hx hb dX4_behind_60 rfl (lv_at hl 2 rfl) ?_
          refine lv_bipush (v := 43) hx hb dX4_behind_61 (by decide) ?_
          refine lv_icmp_eq (tgt := 72) hx hb dX4_behind_63 (by decide) (fun c7 => ?_) (fun c7 => ?_)
          · have h := h.1 c7
            refine lv_iconst (v := 2) hx hb dX4_behind_72 (by decide) ?_
            refine lv_goto (tgt := 77) hx hb dX4_behind_73 (by decide) ?_
            exact hret _ () _ _ _ _ rfl h hP hD hS dX4_behind_77
          · have h := h.2 c7
            refine lv_iload_n hx hb dX4_behind_66 rfl (lv_at hl 2 rfl) ?_
            refine lv_bipush (v := 45) hx hb dX4_behind_67 (by decide) ?_
            refine lv_icmp_ne (tgt := 76) hx hb dX4_behind_69 (by decide) (fun c8 => ?_) (fun c8 => ?_)
            · have h := h.1 c8
              refine lv_iconst (v := (-1)) hx hb dX4_behind_76 (by decide) ?_
              exact hret _ () _ _ _ _ rfl h hP hD hS dX4_behind_77
            · have h := h.2 c8
              refine lv_iconst (v := 2) hx hb dX4_behind_72 (by decide) ?_
              refine lv_goto (tgt := 77) hx hb dX4_behind_73 (by decide) ?_
              exact hret _ () _ _ _ _ rfl h hP hD hS dX4_behind_77
        · have h := h.2 c6
          refine lv_iconst (v := 1) hx hb dX4_behind_58 (by decide) ?_
          exact hret _ () _ _ _ _ rfl h hP hD hS dX4_behind_59
      · have h := h.2 c5
        refine lv_iload_n hx hb dX4_behind_46 rfl (lv_at hl 0 rfl) ?_
        refine lv_if_eq (tgt := 52) hx hb dX4_behind_47 (by decide) (fun c9 => ?_) (fun c9 => ?_)
        · have h := h.1 c9
          refine lv_iload_n hx hb dX4_behind_52 rfl (lv_at hl 2 rfl) ?_
          refine lv_bipush (v := 46) hx hb dX4_behind_53 (by decide) ?_
          refine lv_icmp_ne (tgt := 60) hx hb dX4_behind_55 (by decide) (fun c10 => ?_) (fun c10 => ?_)
          · have h := h.1 c10
            refine lv_iload_n hx hb dX4_behind_60 rfl (lv_at hl 2 rfl) ?_
            refine lv_bipush (v := 43) hx hb dX4_behind_61 (by decide) ?_
            refine lv_icmp_eq (tgt := 72) hx hb dX4_behind_63 (by decide) (fun c11 => ?_) (fun c11 => ?_)
            · have h := h.1 c11
              refine lv_iconst (v := 2) hx hb dX4_behind_72 (by decide) ?_
              refine lv_goto (tgt := 77) hx hb dX4_behind_73 (by decide) ?_
              exact hret _ () _ _ _ _ rfl h hP hD hS dX4_behind_77
            · have h := h.2 c11
              refine lv_iload_n hx hb dX4_behind_66 rfl (lv_at hl 2 rfl) ?_
              refine lv_bipush (v := 45) hx hb dX4_behind_67 (by decide) ?_
              refine lv_icmp_ne (tgt := 76) hx hb dX4_behind_69 (by decide) (fun c12 => ?_) (fun c12 => ?_)
              · have h := h.1 c12
                refine lv_iconst (v := (-1)) hx hb dX4_behind_76 (by decide) ?_
                exact hret _ () _ _ _ _ rfl h hP hD hS dX4_behind_77
              · have h := h.2 c12
                refine lv_iconst (v := 2) hx hb dX4_behind_72 (by decide) ?_
                refine lv_goto (tgt := 77) hx hb dX4_behind_73 (by decide) ?_
                exact hret _ () _ _ _ _ rfl h hP hD hS dX4_behind_77
          · have h := h.2 c10
            refine lv_iconst (v := 1) hx hb dX4_behind_58 (by decide) ?_
            exact hret _ () _ _ _ _ rfl h hP hD hS dX4_behind_59
        · have h := h.2 c9
          refine lv_iconst (v := 0) hx hb dX4_behind_50 (by decide) ?_
          exact hret _ () _ _ _ _ rfl h hP hD hS dX4_behind_51
    · have h := h.2 c4
      refine lv_iload_n hx hb dX4_behind_31 rfl (lv_at hl 0 rfl) ?_
      refine lv_if_eq (tgt := 39) hx hb dX4_behind_32 (by decide) (fun c13 => ?_) (fun c13 => ?_)
      · have h := h.1 c13
        refine lv_iconst (v := (-1)) hx hb dX4_behind_39 (by decide) ?_
        exact hret _ () _ _ _ _ rfl h hP hD hS dX4_behind_40
      · have h := h.2 c13
        refine lv_iconst (v := 3) hx hb dX4_behind_35 (by decide) ?_
        refine lv_goto (tgt := 40) hx hb dX4_behind_36 (by decide) ?_
        exact hret _ () _ _ _ _ rfl h hP hD hS dX4_behind_40
  · have h := h.2 c3
    refine lv_iload_n hx hb dX4_behind_10 rfl (lv_at hl 0 rfl) ?_
    refine lv_if_eq (tgt := 24) hx hb dX4_behind_11 (by decide) (fun c14 => ?_) (fun c14 => ?_)
    · have h := h.1 c14
      refine lv_iconst (v := (-1)) hx hb dX4_behind_24 (by decide) ?_
      exact hret _ () _ _ _ _ rfl h hP hD hS dX4_behind_25
    · have h := h.2 c14
      refine lv_iload_n hx hb dX4_behind_14 rfl (lv_at hl 2 rfl) ?_
      refine lv_bipush (v := 48) hx hb dX4_behind_15 (by decide) ?_
      refine lv_icmp_eq (tgt := 24) hx hb dX4_behind_17 (by decide) (fun c15 => ?_) (fun c15 => ?_)
      · have h := h.1 c15
        refine lv_iconst (v := (-1)) hx hb dX4_behind_24 (by decide) ?_
        exact hret _ () _ _ _ _ rfl h hP hD hS dX4_behind_25
      · have h := h.2 c15
        refine lv_iconst (v := 0) hx hb dX4_behind_20 (by decide) ?_
        refine lv_goto (tgt := 25) hx hb dX4_behind_21 (by decide) ?_
        exact hret _ () _ _ _ _ rfl h hP hD hS dX4_behind_25
-- X4_faultPlace
def rm_X4_faultPlace : Room := { frames := 2, cells := 0, slots := 0, locals := 42 }
abbrev ws_X4_faultPlace : List Cond := .code yX4_faultPlace cX4_faultPlace 3 (some .int) :: wsL_law
theorem cw_RX4_19 {R : Room} {s : State} {args : Array Value} (hts : ∀ w ∈ wsL_law, w.before args s = true) (hR : rm_X4_behind.frames + 1 ≤ R.frames ∧ 8 + (3 + 11) + rm_X4_behind.locals ≤ R.locals) : CallB R s args RX4 19 yX4_behind cX4_behind 3 (some .int) ws_X4_behind rm_X4_behind rm_X4_behind.cells rm_X4_behind.slots 2 ∧ (Cond.static yX4_behind).before args s = true := va_cwS 2 hts (gdS w_8_11 w_8_12 w_1_14 w_8_13) rfl rfl rfl (by decide +kernel) hR
def wp_X4_faultPlace_L4 (post : Int32 → Prop) (K : Int32 → Prop) (st : St) : Nat → Int32 → Int32 → Prop
  | 0, _, _ => False
  | n4 + 1, v1, v2 => ((gI st 0 ≤ v2) → (K v1)) ∧ ((¬ gI st 0 ≤ v2) → (vp_in v2 40 ∧ (wp_X4_behind v1 (gA st 0 v2.toNatClampNeg) (fun r5 => ((¬ r5 = (-1)) → (∀ x8 : Int32, x8 = v2 + 1 → (wp_X4_faultPlace_L4 post K st n4 r5 x8))) ∧ ((r5 = (-1)) → (post v2))))))
def wp_X4_faultPlace (st : St) (post : Int32 → Prop) : Prop := ∃ m4 : Nat, wp_X4_faultPlace_L4 post (fun v10 => ((v10 = 1) → (post (gI st 0))) ∧ ((¬ v10 = 1) → (((¬ v10 = 2) → (post (-6))) ∧ ((v10 = 2) → (post (gI st 0)))))) st m4 0 0
set_option maxHeartbeats 4000000 in
set_option maxRecDepth 100000 in
theorem c_X4_faultPlace (l : Launch) (D : va_G) (cy : Nat → ClassId) (tz : Nat → Nat) (ad : Nat → Nat) (st : St) (post : Int32 → Prop) (h : wp_X4_faultPlace st post) : CtI l D cy tz yX4_faultPlace ws_X4_faultPlace rm_X4_faultPlace [.ref (ad 1)] (wX cy ad st) (fun _ : Unit => wX cy ad st) (fun r _ => post r) := by
  refine CtI.of (own := RX4) (nm := "faultPlace") (lv := [(0, .ref (ad 1))]) (plainFor_of_name (by decide)) rfl rfl (Nat.le_of_ble_eq_true rfl) rfl ?_
  intro p e s m args below meth c A Q ls B hP hD hS hl hret
  obtain ⟨hx, hb, hml, hown, hts, hK, hZ, hA, hnm⟩ := B
  have SF : CallFix p m c cX4_faultPlace 3 s args wsL_law RX4 := ⟨hx, hb, hml, hown, hts⟩
  unfold wp_X4_faultPlace at h
  refine lv_iconst (v := 0) hx hb dX4_faultPlace_0 (by decide) ?_
  refine lv_istore_n (lv' := [(1, .int 0), (0, .ref (ad 1))]) hx hb dX4_faultPlace_1 rfl hl (by decide) rfl (fun ls hl => ?_)
  refine lv_iconst (v := 0) hx hb dX4_faultPlace_2 (by decide) ?_
  refine lv_istore_n (lv' := [(2, .int 0), (1, .int 0), (0, .ref (ad 1))]) hx hb dX4_faultPlace_3 rfl hl (by decide) rfl (fun ls hl => ?_)
  have loop4 : ∀ (K : Int32 → Prop), (∀ (v10 : Int32) (H : Heap) (locs : List Loc) (ls : Array Slot), K v10 → va_P D vwCl (wX cy ad st) H → va_D A (wX cy ad st) → va_S A s.heap H locs → lv_has ls 3 [(0, .ref (ad 1)), (1, .int v10)] → W p l e rm_X4_faultPlace s m args below meth c H locs 0 0 Q (F0 m 36 ls [])) → ∀ (n : Nat) (v1 : Int32) (v2 : Int32) (H : Heap) (locs : List Loc) (ls : Array Slot), wp_X4_faultPlace_L4 post K st n v1 v2 → va_P D vwCl (wX cy ad st) H → va_D A (wX cy ad st) → va_S A s.heap H locs → lv_has ls 3 [(0, .ref (ad 1)), (1, .int v1), (2, .int v2)] → W p l e rm_X4_faultPlace s m args below meth c H locs 0 0 Q (F0 m 4 ls []) := by
    intro K hE4 n
    induction n with
    | zero => intro v1 v2 H locs ls h; exact h.elim
    | succ n ih4 =>
      intro v1 v2 H locs ls h hP hD hS hl
      rw [wp_X4_faultPlace_L4] at h
      refine lv_iload_n hx hb dX4_faultPlace_4 rfl (lv_at hl 2 rfl) ?_
      refine lv_aload_n hx hb dX4_faultPlace_5 rfl (lv_at hl 0 rfl) ?_
      refine va_get (D := D) (ci := 4) (v := .int (gI st 0)) (C := RX4) (T := TX4) (N := 2) hx hb hts inlX4 hown hK hP 1 rfl rfl 1 (by decide) (hts _ w_7_11) (fun _ h9 => h9) rfl dX4_faultPlace_6 ?_
      refine lv_icmp_ge (tgt := 36) hx hb dX4_faultPlace_9 (by decide) (fun c4 => ?_) (fun c4 => ?_)
      · have h := h.1 c4
        exact hE4 _ _ _ _ h hP hD hS (lv_sub hl [0, 1] rfl)
      · have h := h.2 c4
        refine lv_iload_n hx hb dX4_faultPlace_12 rfl (lv_at hl 1 rfl) ?_
        refine lv_aload_n hx hb dX4_faultPlace_13 rfl (lv_at hl 0 rfl) ?_
        refine va_get (D := D) (ci := 4) (v := .ref (ad 2)) (C := RX4) (T := TX4) (N := 2) hx hb hts inlX4 hown hK hP 1 rfl rfl 0 (by decide) (hts _ w_2_21) (fun _ h9 => h9) rfl dX4_faultPlace_14 ?_
        refine lv_iload_n hx hb dX4_faultPlace_17 rfl (lv_at hl 2 rfl) ?_
        refine va_iald (f := gA st 0) (n := 40) hx hb hK hP 2 0 rfl rfl h.1 dX4_faultPlace_18 ?_
        have h := h.2
        refine callSIr (rest := []) SF (c_X4_behind l D cy tz _ v1 (gA st 0 v2.toNatClampNeg) _ h) (cw_RX4_19 hts ⟨Nat.le_of_ble_eq_true rfl, Nat.le_of_ble_eq_true rfl⟩) rfl rfl hK hZ hA hP hD hS rfl hl.1 rfl (Nat.le_of_ble_eq_true rfl) dX4_faultPlace_19 ⟨Nat.zero_le _, Nat.zero_le _⟩ (fun r5 H locs h hP hD hS => ?_)
        refine lv_istore_n (lv' := [(1, .int r5), (0, .ref (ad 1)), (2, .int v2)]) hx hb dX4_faultPlace_22 rfl hl (by decide) rfl (fun ls hl => ?_)
        refine lv_iload_n hx hb dX4_faultPlace_23 rfl (lv_at hl 0 rfl) ?_
        refine lv_iconst (v := (-1)) hx hb dX4_faultPlace_24 (by decide) ?_
        refine lv_icmp_ne (tgt := 30) hx hb dX4_faultPlace_25 (by decide) (fun c7 => ?_) (fun c7 => ?_)
        · have h := h.1 c7
          obtain ⟨x8, e9⟩ : ∃ z : Int32, z = v2 + 1 := ⟨_, rfl⟩
          have h := h x8 e9
          refine lv_iinc (v := x8) (lv' := [(2, .int x8), (1, .int r5), (0, .ref (ad 1))]) hx hb dX4_faultPlace_30 hl (k := 2) rfl (by rw [e9]; rfl) (by decide) rfl (fun ls hl => ?_)
          refine lv_goto (tgt := 4) hx hb dX4_faultPlace_33 (by decide) ?_
          exact ih4 _ _ _ _ _ h hP hD hS (lv_sub hl [2, 1, 0] rfl)
        · have h := h.2 c7
          refine lv_iload_n hx hb dX4_faultPlace_28 rfl (lv_at hl 2 rfl) ?_
          exact hret _ () _ _ _ _ rfl h hP hD hS dX4_faultPlace_29
  obtain ⟨n, h⟩ := h
  refine loop4 _ ?_ n _ _ _ _ _ h hP hD hS (lv_sub hl [2, 1, 0] rfl)
  intro v10 H locs ls h hP hD hS hl
  refine lv_iload_n hx hb dX4_faultPlace_36 rfl (lv_at hl 1 rfl) ?_
  refine lv_iconst (v := 1) hx hb dX4_faultPlace_37 (by decide) ?_
  refine lv_icmp_eq (tgt := 46) hx hb dX4_faultPlace_38 (by decide) (fun c12 => ?_) (fun c12 => ?_)
  · have h := h.1 c12
    refine lv_aload_n hx hb dX4_faultPlace_46 rfl (lv_at hl 0 rfl) ?_
    refine va_get (D := D) (ci := 4) (v := .int (gI st 0)) (C := RX4) (T := TX4) (N := 2) hx hb hts inlX4 hown hK hP 1 rfl rfl 1 (by decide) (hts _ w_7_11) (fun _ h9 => h9) rfl dX4_faultPlace_47 ?_
    refine lv_goto (tgt := 55) hx hb dX4_faultPlace_50 (by decide) ?_
    exact hret _ () _ _ _ _ rfl h hP hD hS dX4_faultPlace_55
  · have h := h.2 c12
    refine lv_iload_n hx hb dX4_faultPlace_41 rfl (lv_at hl 1 rfl) ?_
    refine lv_iconst (v := 2) hx hb dX4_faultPlace_42 (by decide) ?_
    refine lv_icmp_ne (tgt := 53) hx hb dX4_faultPlace_43 (by decide) (fun c13 => ?_) (fun c13 => ?_)
    · have h := h.1 c13
      refine lv_bipush (v := (-6)) hx hb dX4_faultPlace_53 (by decide) ?_
      exact hret _ () _ _ _ _ rfl h hP hD hS dX4_faultPlace_55
    · have h := h.2 c13
      refine lv_aload_n hx hb dX4_faultPlace_46 rfl (lv_at hl 0 rfl) ?_
      refine va_get (D := D) (ci := 4) (v := .int (gI st 0)) (C := RX4) (T := TX4) (N := 2) hx hb hts inlX4 hown hK hP 1 rfl rfl 1 (by decide) (hts _ w_7_11) (fun _ h9 => h9) rfl dX4_faultPlace_47 ?_
      refine lv_goto (tgt := 55) hx hb dX4_faultPlace_50 (by decide) ?_
      exact hret _ () _ _ _ _ rfl h hP hD hS dX4_faultPlace_55
