def Ops (LR : St → Option St → Option St → St → Prop) : Prop :=
  (∀ (st mt : St) (j0 j1 : Option St) (a1 : Int32) (a2 : Int32), LR st j0 j1 mt → wp_X10_set st a1 a2 (fun r st' => wp_X11_set mt a1 a2 (fun r' mt' => r = r' ∧ LR st' j0 j1 mt'))) ∧
  (∀ (st mt : St) (j0 j1 : Option St) (a1 : Int32), LR st j0 j1 mt → wp_X10_say st a1 (fun r st' => wp_X11_say mt a1 (fun r' mt' => r = r' ∧ LR st' j0 j1 mt'))) ∧
  (∀ (st mt : St) (j0 j1 : Option St), LR st j0 j1 mt → wp_X10_wipe st (fun r st' => wp_X11_wipe mt (fun r' mt' => r = r' ∧ LR st' j0 j1 mt'))) ∧
  (∀ (st mt : St) (j0 j1 : Option St), LR st j0 j1 mt → wp_X10_fault st (fun r => wp_X11_fault mt (fun r' => r = r' ∧ LR st j0 j1 mt))) ∧
  (∀ (st mt : St) (j0 j1 : Option St), LR st j0 j1 mt → wp_X10_push st (fun r st' => wp_X11_push mt (fun r' mt' => r = r' ∧ LR st' j0 j1 mt'))) ∧
  (∀ (st mt : St) (j0 j1 : Option St) (a1 : Int32) (a2 : Int32), LR st j0 j1 mt → wp_X10_turn st a1 a2 (fun r st' => wp_X11_turn mt a1 a2 (fun r' mt' => r = r' ∧ LR st' j0 j1 mt'))) ∧
  (∀ (st mt : St) (j0 j1 : Option St) (a1 : Int32) (a2 : Int32), LR st j0 j1 mt → wp_X10_sit st a1 a2 (fun r st' => wp_X11_sit mt a1 a2 (fun r' mt' => r = r' ∧ LR st' j0 j1 mt'))) ∧
  (∀ (st mt : St) (j0 j1 : Option St) (a1 : Int32) (a2 : Int32) (a3 : Int32), LR st j0 j1 mt → wp_X10_point st a1 a2 a3 (fun r st' => wp_X11_point mt a1 a2 a3 (fun r' mt' => r = r' ∧ LR st' j0 j1 mt'))) ∧
  (∀ (st mt : St) (j0 j1 : Option St) (a1 : Int32) (a2 : Int32) (a3 : Int32) (a4 : Int32) (a5 : Int32), LR st j0 j1 mt → wp_X10_ball st a1 a2 a3 a4 a5 (fun r st' => wp_X11_ball mt a1 a2 a3 a4 a5 (fun r' mt' => r = r' ∧ LR st' j0 j1 mt'))) ∧
  (∀ (st mt : St) (j0 j1 : Option St) (a1 : Int32) (a2 : Int32) (a3 : Int32) (a4 : Int32), LR st j0 j1 mt → wp_X10_caught st a1 a2 a3 a4 (fun r st' => wp_X11_caught mt a1 a2 a3 a4 (fun r' mt' => r = r' ∧ LR st' j0 j1 mt'))) ∧
  (∀ (st mt : St) (j0 j1 : Option St) (a1 : Int32) (a2 : Int32) (a3 : Int32), LR st j0 j1 mt → wp_X10_all st a1 a2 a3 (fun r st' => wp_X11_all mt a1 a2 a3 (fun r' mt' => r = r' ∧ LR st' j0 j1 mt'))) ∧
  (∀ (st mt : St) (j0 j1 : Option St) (a1 : Int32) (a2 : Int32) (a3 : Int32), LR st j0 j1 mt → wp_X10_loops st a1 a2 a3 (fun r st' => wp_X11_loops mt a1 a2 a3 (fun r' mt' => r = r' ∧ LR st' j0 j1 mt'))) ∧
  (∀ (st mt : St) (j0 j1 : Option St) (a1 : Int32) (a2 : Int32) (a3 : Int32) (a4 : Int32) (a5 : Int32) (a6 : Int32), LR st j0 j1 mt → wp_X10_rolled st a1 a2 a3 a4 a5 a6 (fun r st' => wp_X11_rolled mt a1 a2 a3 a4 a5 a6 (fun r' mt' => r = r' ∧ LR st' j0 j1 mt'))) ∧
  (∀ (st mt : St) (j0 j1 : Option St) (a1 : Int32) (a2 : Int32) (a3 : Int32) (a4 : Int32), LR st j0 j1 mt → wp_X10_off st a1 a2 a3 a4 (fun r st' => wp_X11_off mt a1 a2 a3 a4 (fun r' mt' => r = r' ∧ LR st' j0 j1 mt'))) ∧
  (∀ (st mt : St) (j0 j1 : Option St) (a1 : Int32), LR st j0 j1 mt → wp_X10_leans st a1 (fun r => wp_X11_leans mt a1 (fun r' => r = r' ∧ LR st j0 j1 mt))) ∧
  (∀ (st mt : St) (j0 j1 : Option St) (a1 : Int32), LR st j0 j1 mt → wp_X10_stays st a1 (fun r => wp_X11_stays mt a1 (fun r' => r = r' ∧ LR st j0 j1 mt))) ∧
  (∀ (st mt : St) (j0 j1 : Option St) (a1 : Int32) (a2 : Int32) (a3 : Int32), LR st j0 j1 mt → wp_X10_hut st a1 a2 a3 (fun r => wp_X11_hut mt a1 a2 a3 (fun r' => r = r' ∧ LR st j0 j1 mt))) ∧
  (∀ (st mt : St) (j0 j1 : Option St) (a1 : Int32) (a2 : Int32), LR st j0 j1 mt → wp_X10_film st a1 a2 (fun r st' => wp_X11_film mt a1 a2 (fun r' mt' => r = r' ∧ LR st' j0 j1 mt'))) ∧
  (∀ (st mt : St) (j0 j1 : Option St), LR st j0 j1 mt → wp_X10_clear st (fun r st' => wp_X11_clear mt (fun r' mt' => r = r' ∧ LR st' j0 j1 mt'))) ∧
  (∀ (st mt : St) (j0 j1 : Option St) (a1 : Int32), LR st j0 j1 mt → wp_X10_bent st a1 (fun r => wp_X11_bent mt a1 (fun r' mt' => r = r' ∧ LR st j0 j1 mt'))) ∧
  (∀ (st mt : St) (j0 j1 : Option St), LR st j0 j1 mt → wp_X10_turned st (fun r => wp_X11_turned mt (fun r' mt' => r = r' ∧ LR st j0 j1 mt'))) ∧
  (∀ (st mt : St) (j0 j1 : Option St) (a1 : Int32) (a2 : Int32), LR st j0 j1 mt → wp_X10_span st a1 a2 (fun r => wp_X11_span mt a1 a2 (fun r' mt' => r = r' ∧ LR st j0 j1 mt'))) ∧
  (∀ (st mt : St) (j0 j1 : Option St) (a1 : Int32) (a2 : Int32) (a3 : Int32) (a4 : Int32), LR st j0 j1 mt → wp_X10_learns st a1 a2 a3 a4 (fun r st' => wp_X11_learns mt a1 a2 a3 a4 (fun r' mt' => r = r' ∧ LR st' j0 j1 mt'))) ∧
  (∀ (st mt : St) (j0 j1 : Option St) (a1 : Int32) (a2 : Int32) (a3 : Int32) (a4 : Int32), LR st j0 j1 mt → wp_X10_along st a1 a2 a3 a4 (fun r st' => wp_X11_along mt a1 a2 a3 a4 (fun r' mt' => r = r' ∧ LR st' j0 j1 mt'))) ∧
  (∀ (st mt : St) (j0 j1 : Option St), LR st j0 j1 mt → wp_X11_image mt 0 (fun r mt' => r = 1 ∧ LR st (some (cpS (j0.getD si0) st)) j1 mt')) ∧
  (∀ (st mt : St) (j0 j1 : Option St), LR st j0 j1 mt → wp_X11_image mt 1 (fun r mt' => r = 1 ∧ LR st j0 (some (cpS (j1.getD si0) st)) mt')) ∧
  (∀ (st mt : St) (j0 j1 : Option St) (n : Int32), n ≠ 0 → n ≠ 1 → LR st j0 j1 mt → wp_X11_image mt n (fun r mt' => r = (-2) ∧ LR st j0 j1 mt')) ∧
  (∀ (st mt sv : St) (j1 : Option St), LR st (some sv) j1 mt → wp_X11_restore mt 0 (fun r mt' => r = 1 ∧ LR (rsX sv st) (some sv) j1 mt')) ∧
  (∀ (st mt : St) (j1 : Option St), LR st none j1 mt → wp_X11_restore mt 0 (fun r mt' => r = (-3) ∧ LR st none j1 mt')) ∧
  (∀ (st mt sv : St) (j0 : Option St), LR st j0 (some sv) mt → wp_X11_restore mt 1 (fun r mt' => r = 1 ∧ LR (rsX sv st) j0 (some sv) mt')) ∧
  (∀ (st mt : St) (j0 : Option St), LR st j0 none mt → wp_X11_restore mt 1 (fun r mt' => r = (-3) ∧ LR st j0 none mt')) ∧
  (∀ (st mt : St) (j0 j1 : Option St) (n : Int32), n ≠ 0 → n ≠ 1 → LR st j0 j1 mt → wp_X11_restore mt n (fun r mt' => r = (-2) ∧ LR st j0 j1 mt')) ∧
  (∀ (st mt : St) (j0 j1 : Option St) (a1 : Int32), LR st j0 j1 mt → wp_X10_told st a1 (fun r => wp_X11_told mt a1 (fun r' => r = r' ∧ LR st j0 j1 mt)))
set_option maxHeartbeats 4000000 in
set_option maxRecDepth 100000 in
theorem law_loop {p : Program} {l : Launch} {e : Env} {s : State} {m : MethodId} {below : List Frame} {meth : Method} {c : Code} {D : va_G} {cy : Nat → ClassId} {tz : Nat → Nat} {b L : Nat} {xs : Nat → Int32} {LR : St → Option St → Option St → St → Prop} {ad bd : Nat → Nat} (hL : L ≤ 3584) (hC : Lc p s m meth c D cy tz b L xs) (hO : Ops LR) : ∀ (n j : Nat) (x3 : Int32) (st mt : St) (f : Nat → Option Nat) (i0 i1 : Im) (H : Heap) (locs : List Loc) (ls : Array Slot), 7 * j ≤ L → L < 7 * j + 7 * n → x3 = nI (7 * j) → LR st (jm i0) (jm i1) mt → fOk f i0 i1 → va_P D vwCl (wA cy ad bd st mt f i0 i1) H → va_D (lwA s) (wA cy ad bd st mt f i0 i1) → va_S (lwA s) s.heap H locs → lv_has ls 4 [(0, .ref b), (1, .ref (ad 0)), (2, .ref (bd 0)), (3, .int x3)] → W p l e room_1 s m #[Value.ref b] below meth c H locs (43 + 10 * j) (2688 + 122 * j) (lw_Z below #[Value.ref b] s) (F0 m 18 ls []) := by
  obtain ⟨hx, hb, hr, hml, hown, hts, hX, hbl, hlocks, hK, hZ, hXX⟩ := id hC
  have hA : ∀ q : Nat, s.heap.size ≤ q → lwA s q := fun _ h => h
  have hbA : ¬ lwA s b := Nat.not_le.mpr hbl
  intro n
  induction n with
  | zero => intro j x3 st mt f i0 i1 H locs ls h1 h2; exact absurd h2 (by omega)
  | succ n ih =>
    intro j x3 st mt f i0 i1 H locs ls h1 h2 hx3 hLR hf hP hD hS hl
    refine lv_iload_n hx hb dL_law_18 rfl (lv_at hl 3 rfl) ?_
    refine lv_aload_n hx hb dL_law_19 rfl (lv_at hl 0 rfl) ?_
    refine va_slen hx hb hX hbl hbA hS dL_law_20 ?_
    refine lv_bipush (v := 7) hx hb dL_law_21 (by decide) ?_
    refine lv_isub hx hb dL_law_23 ?_
    refine lv_icmp_gt (tgt := 1075) hx hb dL_law_24 (by decide) (fun c1 => ?_) (fun c1 => ?_)
    · refine lv_iconst (v := 1) hx hb dL_law_1075 (by decide) ?_
      refine va_forget (fun q hq => hS.2.2 q hq) ?_
      refine W.widen (k := 600000) (n := 7302250) (by omega) (by omega) ?_
      exact lw_ret hx hb hr hlocks dL_law_1076
    · have hj : 7 * j + 7 ≤ L := lw_ix hL h1 hx3 c1
      have hi0 : vp_in x3 L := by
        rw [hx3]
        exact vp_in_nI (by omega) (by omega)
      have next : ∀ (cells slots : Nat), cells = 43 + 10 * (j + 1) → slots = 2688 + 122 * (j + 1) → ∀ (st2 mt2 : St) (f2 : Nat → Option Nat) (k0 k1 : Im) (H : Heap) (locs : List Loc), LR st2 (jm k0) (jm k1) mt2 → fOk f2 k0 k1 → va_P D vwCl (wA cy ad bd st2 mt2 f2 k0 k1) H → va_D (lwA s) (wA cy ad bd st2 mt2 f2 k0 k1) → va_S (lwA s) s.heap H locs → W p l e room_1 s m #[Value.ref b] below meth c H locs cells slots (lw_Z below #[Value.ref b] s) (F0 m 1069 ls []) := by
        intro cells slots e1 e2 st2 mt2 f2 k0 k1 H locs hLR hf hP hD hS
        subst e1; subst e2
        obtain ⟨x4, e4⟩ : ∃ z : Int32, z = x3 + 7 := ⟨_, rfl⟩
        refine lv_iinc (v := x4) (lv' := [(3, .int x4), (0, .ref b), (1, .ref (ad 0)), (2, .ref (bd 0))]) hx hb dL_law_1069 hl (k := 3) rfl (by rw [e4]; rfl) (by decide) rfl (fun ls hl => ?_)
        refine lv_goto (tgt := 18) hx hb dL_law_1072 (by decide) ?_
        exact ih (j + 1) x4 st2 mt2 f2 k0 k1 H locs ls (by omega) (by omega) (by rw [e4, hx3]; exact (nI_add (7 * j) 7).trans (by rw [show 7 * j + 7 = 7 * (j + 1) by omega])) hLR hf hP hD hS (lv_sub hl [1, 2, 3, 0] rfl)
      have hcl : 43 + 10 * j + 10 ≤ 600000 := by omega
      have hsl : 2688 + 122 * j + 122 ≤ 7302250 := by omega
      have nx := next (43 + 10 * j + 10) (2688 + 122 * j + 122) (by omega) (by omega)
      refine lv_aload_n hx hb dL_law_27 rfl (lv_at hl 0 rfl) ?_
      refine lv_iload_n hx hb dL_law_28 rfl (lv_at hl 3 rfl) ?_
      refine va_sld hx hb hX hbl hbA hS hi0 dL_law_29 ?_
      refine lv_bipush (v := 31) hx hb dL_law_30 (by decide) ?_
      refine lv_iand hx hb dL_law_32 ?_
      generalize xs x3.toNatClampNeg &&& 31 = v
      rcases (show ((v.toInt < 0 ∨ 26 < v.toInt) ∨ v.toInt = 0 ∨ v.toInt = 1 ∨ v.toInt = 2 ∨ v.toInt = 3 ∨ v.toInt = 4 ∨ v.toInt = 5 ∨ v.toInt = 6 ∨ v.toInt = 7 ∨ v.toInt = 8 ∨ v.toInt = 9 ∨ v.toInt = 10 ∨ v.toInt = 11 ∨ v.toInt = 12 ∨ v.toInt = 13 ∨ v.toInt = 14 ∨ v.toInt = 15 ∨ v.toInt = 16 ∨ v.toInt = 17 ∨ v.toInt = 18 ∨ v.toInt = 19 ∨ v.toInt = 20 ∨ v.toInt = 21 ∨ v.toInt = 22 ∨ v.toInt = 23 ∨ v.toInt = 24 ∨ v.toInt = 25 ∨ v.toInt = 26) by omega) with c2 | c2 | c2 | c2 | c2 | c2 | c2 | c2 | c2 | c2 | c2 | c2 | c2 | c2 | c2 | c2 | c2 | c2 | c2 | c2 | c2 | c2 | c2 | c2 | c2 | c2 | c2 | c2
      · refine lv_tableOut (tgt := 1069) hx hb dL_law_33 c2 (by decide) ?_
        refine W.widen (k := 43 + 10 * j + 10) (n := 2688 + 122 * j + 122) (by omega) (by omega) ?_
        exact nx st mt f i0 i1 H locs hLR hf hP hD hS
      · refine lv_tableIn (off := 123) (tgt := 156) hx hb dL_law_33 (by omega) (by omega) (by rw [c2]; rfl) (by decide) ?_
        exact lo_set hL hC (hO.1) hx3 hj hcl hsl hLR hf hP hD hS hl nx
      · refine lv_tableIn (off := 156) (tgt := 189) hx hb dL_law_33 (by omega) (by omega) (by rw [c2]; rfl) (by decide) ?_
        exact lo_say hL hC (hO.2.1) hx3 hj hcl hsl hLR hf hP hD hS hl nx
      · refine lv_tableIn (off := 179) (tgt := 212) hx hb dL_law_33 (by omega) (by omega) (by rw [c2]; rfl) (by decide) ?_
        exact lo_wipe hL hC (hO.2.2.1) hx3 hj hcl hsl hLR hf hP hD hS hl nx
      · refine lv_tableIn (off := 192) (tgt := 225) hx hb dL_law_33 (by omega) (by omega) (by rw [c2]; rfl) (by decide) ?_
        exact lo_fault hL hC (hO.2.2.2.1) hx3 hj hcl hsl hLR hf hP hD hS hl nx
      · refine lv_tableIn (off := 205) (tgt := 238) hx hb dL_law_33 (by omega) (by omega) (by rw [c2]; rfl) (by decide) ?_
        exact lo_push hL hC (hO.2.2.2.2.1) hx3 hj hcl hsl hLR hf hP hD hS hl nx
      · refine lv_tableIn (off := 218) (tgt := 251) hx hb dL_law_33 (by omega) (by omega) (by rw [c2]; rfl) (by decide) ?_
        exact lo_turn hL hC (hO.2.2.2.2.2.1) hx3 hj hcl hsl hLR hf hP hD hS hl nx
      · refine lv_tableIn (off := 251) (tgt := 284) hx hb dL_law_33 (by omega) (by omega) (by rw [c2]; rfl) (by decide) ?_
        exact lo_sit hL hC (hO.2.2.2.2.2.2.1) hx3 hj hcl hsl hLR hf hP hD hS hl nx
      · refine lv_tableIn (off := 284) (tgt := 317) hx hb dL_law_33 (by omega) (by omega) (by rw [c2]; rfl) (by decide) ?_
        exact lo_point hL hC (hO.2.2.2.2.2.2.2.1) hx3 hj hcl hsl hLR hf hP hD hS hl nx
      · refine lv_tableIn (off := 327) (tgt := 360) hx hb dL_law_33 (by omega) (by omega) (by rw [c2]; rfl) (by decide) ?_
        exact lo_ball hL hC (hO.2.2.2.2.2.2.2.2.1) hx3 hj hcl hsl hLR hf hP hD hS hl nx
      · refine lv_tableIn (off := 390) (tgt := 423) hx hb dL_law_33 (by omega) (by omega) (by rw [c2]; rfl) (by decide) ?_
        exact lo_caught hL hC (hO.2.2.2.2.2.2.2.2.2.1) hx3 hj hcl hsl hLR hf hP hD hS hl nx
      · refine lv_tableIn (off := 443) (tgt := 476) hx hb dL_law_33 (by omega) (by omega) (by rw [c2]; rfl) (by decide) ?_
        exact lo_all hL hC (hO.2.2.2.2.2.2.2.2.2.2.1) hx3 hj hcl hsl hLR hf hP hD hS hl nx
      · refine lv_tableIn (off := 486) (tgt := 519) hx hb dL_law_33 (by omega) (by omega) (by rw [c2]; rfl) (by decide) ?_
        exact lo_loops hL hC (hO.2.2.2.2.2.2.2.2.2.2.2.1) hx3 hj hcl hsl hLR hf hP hD hS hl nx
      · refine lv_tableIn (off := 529) (tgt := 562) hx hb dL_law_33 (by omega) (by omega) (by rw [c2]; rfl) (by decide) ?_
        exact lo_rolled hL hC (hO.2.2.2.2.2.2.2.2.2.2.2.2.1) hx3 hj hcl hsl hLR hf hP hD hS hl nx
      · refine lv_tableIn (off := 604) (tgt := 637) hx hb dL_law_33 (by omega) (by omega) (by rw [c2]; rfl) (by decide) ?_
        exact lo_off hL hC (hO.2.2.2.2.2.2.2.2.2.2.2.2.2.1) hx3 hj hcl hsl hLR hf hP hD hS hl nx
      · refine lv_tableIn (off := 657) (tgt := 690) hx hb dL_law_33 (by omega) (by omega) (by rw [c2]; rfl) (by decide) ?_
        exact lo_leans hL hC (hO.2.2.2.2.2.2.2.2.2.2.2.2.2.2.1) hx3 hj hcl hsl hLR hf hP hD hS hl nx
      · refine lv_tableIn (off := 680) (tgt := 713) hx hb dL_law_33 (by omega) (by omega) (by rw [c2]; rfl) (by decide) ?_
        exact lo_stays hL hC (hO.2.2.2.2.2.2.2.2.2.2.2.2.2.2.2.1) hx3 hj hcl hsl hLR hf hP hD hS hl nx
      · refine lv_tableIn (off := 703) (tgt := 736) hx hb dL_law_33 (by omega) (by omega) (by rw [c2]; rfl) (by decide) ?_
        exact lo_hut hL hC (hO.2.2.2.2.2.2.2.2.2.2.2.2.2.2.2.2.1) hx3 hj hcl hsl hLR hf hP hD hS hl nx
      · refine lv_tableIn (off := 746) (tgt := 779) hx hb dL_law_33 (by omega) (by omega) (by rw [c2]; rfl) (by decide) ?_
        exact lo_film hL hC (hO.2.2.2.2.2.2.2.2.2.2.2.2.2.2.2.2.2.1) hx3 hj hcl hsl hLR hf hP hD hS hl nx
      · refine lv_tableIn (off := 779) (tgt := 812) hx hb dL_law_33 (by omega) (by omega) (by rw [c2]; rfl) (by decide) ?_
        exact lo_clear hL hC (hO.2.2.2.2.2.2.2.2.2.2.2.2.2.2.2.2.2.2.1) hx3 hj hcl hsl hLR hf hP hD hS hl nx
      · refine lv_tableIn (off := 792) (tgt := 825) hx hb dL_law_33 (by omega) (by omega) (by rw [c2]; rfl) (by decide) ?_
        exact lo_bent hL hC (hO.2.2.2.2.2.2.2.2.2.2.2.2.2.2.2.2.2.2.2.1) hx3 hj hcl hsl hLR hf hP hD hS hl nx
      · refine lv_tableIn (off := 815) (tgt := 848) hx hb dL_law_33 (by omega) (by omega) (by rw [c2]; rfl) (by decide) ?_
        exact lo_turned hL hC (hO.2.2.2.2.2.2.2.2.2.2.2.2.2.2.2.2.2.2.2.2.1) hx3 hj hcl hsl hLR hf hP hD hS hl nx
      · refine lv_tableIn (off := 828) (tgt := 861) hx hb dL_law_33 (by omega) (by omega) (by rw [c2]; rfl) (by decide) ?_
        exact lo_span hL hC (hO.2.2.2.2.2.2.2.2.2.2.2.2.2.2.2.2.2.2.2.2.2.1) hx3 hj hcl hsl hLR hf hP hD hS hl nx
      · refine lv_tableIn (off := 861) (tgt := 894) hx hb dL_law_33 (by omega) (by omega) (by rw [c2]; rfl) (by decide) ?_
        exact lo_learns hL hC (hO.2.2.2.2.2.2.2.2.2.2.2.2.2.2.2.2.2.2.2.2.2.2.1) hx3 hj hcl hsl hLR hf hP hD hS hl nx
      · refine lv_tableIn (off := 914) (tgt := 947) hx hb dL_law_33 (by omega) (by omega) (by rw [c2]; rfl) (by decide) ?_
        exact lo_along hL hC (hO.2.2.2.2.2.2.2.2.2.2.2.2.2.2.2.2.2.2.2.2.2.2.2.1) hx3 hj hcl hsl hLR hf hP hD hS hl nx
      · refine lv_tableIn (off := 967) (tgt := 1000) hx hb dL_law_33 (by omega) (by omega) (by rw [c2]; rfl) (by decide) ?_
        exact lo_image hL hC (hO.2.2.2.2.2.2.2.2.2.2.2.2.2.2.2.2.2.2.2.2.2.2.2.2.1) (hO.2.2.2.2.2.2.2.2.2.2.2.2.2.2.2.2.2.2.2.2.2.2.2.2.2.1) (hO.2.2.2.2.2.2.2.2.2.2.2.2.2.2.2.2.2.2.2.2.2.2.2.2.2.2.1) hx3 hj hcl hsl hLR hf hP hD hS hl nx
      · refine lv_tableIn (off := 990) (tgt := 1023) hx hb dL_law_33 (by omega) (by omega) (by rw [c2]; rfl) (by decide) ?_
        exact lo_restore hL hC (hO.2.2.2.2.2.2.2.2.2.2.2.2.2.2.2.2.2.2.2.2.2.2.2.2.2.2.2.1) (hO.2.2.2.2.2.2.2.2.2.2.2.2.2.2.2.2.2.2.2.2.2.2.2.2.2.2.2.2.1) (hO.2.2.2.2.2.2.2.2.2.2.2.2.2.2.2.2.2.2.2.2.2.2.2.2.2.2.2.2.2.1) (hO.2.2.2.2.2.2.2.2.2.2.2.2.2.2.2.2.2.2.2.2.2.2.2.2.2.2.2.2.2.2.1) (hO.2.2.2.2.2.2.2.2.2.2.2.2.2.2.2.2.2.2.2.2.2.2.2.2.2.2.2.2.2.2.2.1) hx3 hj hcl hsl hLR hf hP hD hS hl nx
      · refine lv_tableIn (off := 1013) (tgt := 1046) hx hb dL_law_33 (by omega) (by omega) (by rw [c2]; rfl) (by decide) ?_
        exact lo_told hL hC (hO.2.2.2.2.2.2.2.2.2.2.2.2.2.2.2.2.2.2.2.2.2.2.2.2.2.2.2.2.2.2.2.2) hx3 hj hcl hsl hLR hf hP hD hS hl nx
