theorem cw_RX10_269 {R : Room} {s : State} {args : Array Value} (hts : ∀ w ∈ wsL_law, w.before args s = true) (hR : rm_X10_isImage.frames + 1 ≤ R.frames ∧ 8 + (1 + 11) + rm_X10_isImage.locals ≤ R.locals) : CallB R s args RX10 269 yX10_isImage cX10_isImage 1 (some .boolean) ws_X10_isImage rm_X10_isImage rm_X10_isImage.cells rm_X10_isImage.slots 1 ∧ (Cond.static yX10_isImage).before args s = true := va_cwS 1 hts (gdS w_36_1 w_36_2 w_1_2 w_36_3) rfl rfl rfl (by decide +kernel) hR
theorem cw_RX10_272 {R : Room} {s : State} {args : Array Value} (hts : ∀ w ∈ wsL_law, w.before args s = true) (hR : rm_X7_become.frames + 1 ≤ R.frames ∧ 8 + (2 + 11) + rm_X7_become.locals ≤ R.locals) : CallW R s args RX10 RX7 272 yX7_become cX7_become 2 none ws_X7_become rm_X7_become rm_X7_become.cells rm_X7_become.slots 1 := cwV 1 hts (gdV w_36_4 w_36_5 w_36_6 w_1_18 w_36_7) rfl rfl rfl (by decide +kernel) hR
theorem va_D_cons {A : Nat → Prop} {x : Nat × va_E} {ws : va_W} : va_D A (x :: ws) ↔ A x.1 ∧ (∀ q ∈ ws, x.1 ≠ q.1) ∧ va_D A ws := by
  constructor
  · intro h
    refine ⟨h.2 0 x rfl, fun q hq e => ?_, fun i j p q h1 h2 h3 => ?_, fun k q hk => h.2 (k + 1) q hk⟩
    · obtain ⟨k, hk⟩ := List.getElem?_of_mem hq
      have := h.1 0 (k + 1) x q rfl hk e
      omega
    · have := h.1 (i + 1) (j + 1) p q h1 h2 h3
      omega
  · rintro ⟨h1, h2, h3⟩
    refine ⟨fun i j p q hi hj e => ?_, fun k q hk => ?_⟩
    · match i, j, hi, hj with
      | 0, 0, _, _ => rfl
      | 0, j + 1, hi, hj =>
        have hp : x = p := Option.some.inj hi
        exact absurd (by rw [hp]; exact e) (h2 q (List.mem_of_getElem? hj))
      | i + 1, 0, hi, hj =>
        have hp : x = q := Option.some.inj hj
        exact absurd (by rw [hp]; exact e.symm) (h2 p (List.mem_of_getElem? hi))
      | i + 1, j + 1, hi, hj => rw [h3.1 i j p q hi hj e]
    · match k, hk with
      | 0, hk => have hp : x = q := Option.some.inj hk; rw [← hp]; exact h1
      | k + 1, hk => exact h3.2 k q hk
theorem pm_P {D : va_G} {cl : List vw_C} {ws ws' : va_W} {H : Heap} (h : ws.Perm ws') (hP : va_P D cl ws H) : va_P D cl ws' H := fun k q hk => by
  obtain ⟨j, hj⟩ := List.getElem?_of_mem (h.mem_iff.mpr (List.mem_of_getElem? hk))
  exact hP j q hj
theorem pm_D {A : Nat → Prop} {ws ws' : va_W} (h : ws.Perm ws') (hD : va_D A ws) : va_D A ws' := by
  induction h with
  | nil => exact hD
  | cons x h ih =>
    rw [va_D_cons] at hD ⊢
    exact ⟨hD.1, fun q hq => hD.2.1 q (h.mem_iff.mpr hq), ih hD.2.2⟩
  | swap x y l =>
    rw [va_D_cons, va_D_cons] at hD ⊢
    obtain ⟨h1, h2, h3, h4, h5⟩ := hD
    exact ⟨h3, fun q hq => by
      rcases List.mem_cons.mp hq with rfl | hq
      · exact (h2 x List.mem_cons_self).symm
      · exact h4 q hq, h1, fun q hq => h2 q (List.mem_cons_of_mem _ hq), h5⟩
  | trans _ _ i1 i2 => exact i2 (i1 hD)
theorem pm_of {l1 l2 : va_W} (h : ∀ (dc : DecidableEq (Nat × va_E)) (a : Nat × va_E), List.count a l1 = List.count a l2) : l1.Perm l2 := by
  letI : DecidableEq (Nat × va_E) := fun a b => Classical.propDecidable (a = b)
  exact List.perm_iff_count.mpr (fun a => h _ a)
theorem part_l {A : Nat → Prop} {D : va_G} {cl : List vw_C} {r w : va_W} {H : Heap} (hP : va_P D cl (w ++ r) H) (hD : va_D A (w ++ r)) : va_P D cl w H ∧ va_D A w := part_r (pm_P List.perm_append_comm hP) (pm_D List.perm_append_comm hD)
section CT
variable {p : Program} {l : Launch} {e : Env} {R : Room} {s : State} {m : MethodId} {args : Array Value} {below : List Frame} {meth : Method} {c : Code} {H : Heap} {locs : List Loc} {cells slots : Nat} {Q : State → Prop}
variable {cc bytes : ByteArray} {nL maxL index n : Nat} {own C host : String} {y : MethodName} {ret : Option FieldType} {ws : List Cond} {rm : Room} {b : Addr} {As rest st0 : List Value} {pc : Nat} {ls : Array Slot}
variable {D : va_G} {cy : Nat → ClassId} {tz : Nat → Nat} {A : Nat → Prop} {w r : va_W}

theorem callTV {S : Type} {wf : S → va_W} {post : S → Prop} (SF : CallFix p m c cc nL s args wsL_law own) (hM : CtV l D cy tz y ws rm (.ref b :: As) w wf post) (cw : CallW R s args own C index y bytes maxL ret ws rm rm.cells rm.slots n) (h0 : rm.cells = 0) (h1 : rm.slots = 0) (hv : ∃ cell : Cell, H[b]? = some cell ∧ cell.vm.isStatics = false ∧ s.vm.findClass C = some cell.cls) (hK : va_K D vwCl (TY cy) s) (hZ : ZZ tz A s s.heap) (hA : ∀ q, s.heap.size ≤ q → A q) (hP : va_P D vwCl (r ++ w) H) (hD : va_D A (r ++ w)) (hS : va_S A s.heap H locs) (hn : As.length = n) (hsize : ls.size = nL) (hst : st0 = As.reverse ++ .ref b :: rest) (hroom : (rest.map fun v => v.category).sum ≤ 8) (hdg : decode cc pc = .ok (.invokevirtual index, 3)) (hf : cells ≤ R.cells ∧ slots ≤ R.slots)
    (kk : ∀ (u : S) (H1 : Heap) (locs1 : List Loc), post u → va_P D vwCl (r ++ wf u) H1 → va_D A (r ++ wf u) → va_S A s.heap H1 locs1 → W p l e R s m args below meth c H1 locs1 cells slots Q (F0 m (pc + 3) ls (rest))) : W p l e R s m args below meth c H locs cells slots Q (F0 m pc ls st0) := by
  subst hst
  obtain ⟨hPw, hDw⟩ := part_r hP hD
  have hFc := fr_of hDw hS hA
  refine va_callv (va_runV SF (hM H.size) cw (preV hv hK hZ hA hPw hDw hS) rfl hn hsize rfl (lv_room hroom) hdg (by rw [h0, h1]; exact hf)) hS (fun q _ h => hFc q h) hFc (fun u t H1 locs1 ht hvm hw hB hz1 hk1 hS1 => ?_)
  rw [h0, h1]
  obtain ⟨hP1, hD1⟩ := hB
  rw [ht] at hP1
  obtain ⟨hP2, hD2⟩ := join_r hP hD hk1 hFc hP1 hD1
  exact kk u H1 locs1 hw hP2 hD2 hS1
theorem callTI {S : Type} {wf : S → va_W} {post : Int32 → S → Prop} (SF : CallFix p m c cc nL s args wsL_law own) (hM : CtI l D cy tz y ws rm (.ref b :: As) w wf post) (cw : CallW R s args own C index y bytes maxL ret ws rm rm.cells rm.slots n) (h0 : rm.cells = 0) (h1 : rm.slots = 0) (hv : ∃ cell : Cell, H[b]? = some cell ∧ cell.vm.isStatics = false ∧ s.vm.findClass C = some cell.cls) (hK : va_K D vwCl (TY cy) s) (hZ : ZZ tz A s s.heap) (hA : ∀ q, s.heap.size ≤ q → A q) (hP : va_P D vwCl (r ++ w) H) (hD : va_D A (r ++ w)) (hS : va_S A s.heap H locs) (hn : As.length = n) (hsize : ls.size = nL) (hst : st0 = As.reverse ++ .ref b :: rest) (hroom : (rest.map fun v => v.category).sum ≤ 8) (hdg : decode cc pc = .ok (.invokevirtual index, 3)) (hf : cells ≤ R.cells ∧ slots ≤ R.slots)
    (kk : ∀ (r1 : Int32) (u : S) (H1 : Heap) (locs1 : List Loc), post r1 u → va_P D vwCl (r ++ wf u) H1 → va_D A (r ++ wf u) → va_S A s.heap H1 locs1 → W p l e R s m args below meth c H1 locs1 cells slots Q (F0 m (pc + 3) ls (.int r1 :: rest))) : W p l e R s m args below meth c H locs cells slots Q (F0 m pc ls st0) := by
  subst hst
  obtain ⟨hPw, hDw⟩ := part_r hP hD
  have hFc := fr_of hDw hS hA
  refine va_calli (va_runV SF (hM H.size) cw (preV hv hK hZ hA hPw hDw hS) rfl hn hsize rfl (lv_room hroom) hdg (by rw [h0, h1]; exact hf)) hS (fun q _ h => hFc q h) hFc (fun r1 u t H1 locs1 ht hvm hw hB hz1 hk1 hS1 => ?_)
  rw [h0, h1]
  obtain ⟨hP1, hD1⟩ := hB
  rw [ht] at hP1
  obtain ⟨hP2, hD2⟩ := join_r hP hD hk1 hFc hP1 hD1
  exact kk r1 u H1 locs1 hw hP2 hD2 hS1
theorem callTN {S : Type} {wf : S → va_W} {post : Int32 → S → Prop} (SF : CallFix p m c cc nL s args wsL_law own) (hM : CtNI l D cy tz y ws rm (.ref b :: As) w wf post) (cw : CallW R s args own C index y bytes maxL ret ws rm rm.cells rm.slots n) (hv : ∃ cell : Cell, H[b]? = some cell ∧ cell.vm.isStatics = false ∧ s.vm.findClass C = some cell.cls) (hK : va_K D vwCl (TY cy) s) (hZ : ZZ tz A s s.heap) (hX : XX tz cy A s s.heap) (hA : ∀ q, s.heap.size ≤ q → A q) (hP : va_P D vwCl (r ++ w) H) (hD : va_D A (r ++ w)) (hS : va_S A s.heap H locs) (hn : As.length = n) (hsize : ls.size = nL) (hst : st0 = As.reverse ++ .ref b :: rest) (hroom : (rest.map fun v => v.category).sum ≤ 8) (hdg : decode cc pc = .ok (.invokevirtual index, 3)) (hf : cells + rm.cells ≤ R.cells ∧ slots + rm.slots ≤ R.slots)
    (kk : ∀ (r1 : Int32) (u : S) (H1 : Heap) (locs1 : List Loc), post r1 u → va_P D vwCl (r ++ wf u) H1 → va_D A (r ++ wf u) → va_S A s.heap H1 locs1 → W p l e R s m args below meth c H1 locs1 (cells + rm.cells) (slots + rm.slots) Q (F0 m (pc + 3) ls (.int r1 :: rest))) : W p l e R s m args below meth c H locs cells slots Q (F0 m pc ls st0) := by
  subst hst
  obtain ⟨hPw, hDw⟩ := part_r hP hD
  have hFc := fr_of hDw hS hA
  refine va_calli (va_runV SF (hM H.size) cw (⟨Pre2.blind, hv, fun U hU hW => ⟨rfl, ⟨by rw [hU], by rw [hU]; exact hPw, va_K.moved hW.alike hK, hDw.weaken (fun _ _ _ _ => trivial), hZ.pass hS hFc hU hW⟩, hX.pass hS hFc hU hW⟩⟩) rfl hn hsize rfl (lv_room hroom) hdg hf) hS (fun q _ h => hFc q h) hFc (fun r1 u t H1 locs1 ht hvm hw hB hz1 hk1 hS1 => ?_)
  obtain ⟨hP1, hD1⟩ := hB
  rw [ht] at hP1
  obtain ⟨hP2, hD2⟩ := join_r hP hD hk1 hFc hP1 hD1
  exact kk r1 u H1 locs1 hw hP2 hD2 hS1
end CT
abbrev Im : Type := Option ((Nat → Nat) × St)
def wIm (cy : Nat → ClassId) (i : Im) : va_W := match i with
  | none => []
  | some q => wS cy q.1 q.2
def wJ (cy : Nat → ClassId) (ad : Nat → Nat) (f : Nat → Option Nat) : Nat × va_E := (ad 23, .inl (cy 3, 2, .inr (.inr (.inr (.inr f)))))
def wY (cy : Nat → ClassId) (ad : Nat → Nat) (st : St) (f : Nat → Option Nat) (i0 i1 : Im) : va_W := wX cy ad st ++ (wJ cy ad f :: (wIm cy i0 ++ wIm cy i1))
def w3 (cy : Nat → ClassId) (ad : Nat → Nat) (st : St) : va_W := (wX cy ad st).take 3
def w10 (cy : Nat → ClassId) (ad : Nat → Nat) (st : St) : va_W := (wX cy ad st).drop 13
theorem wX_cut (cy : Nat → ClassId) (ad : Nat → Nat) (st : St) : wX cy ad st = w3 cy ad st ++ (wS cy ad st ++ w10 cy ad st) := rfl
def pr {α : Type} (a b : Nat → α) (k : Nat) : α := if k < 100 then a k else b (k - 100)
def mk2 (a b : St) : St := (pr a.1 b.1, pr a.2.1 b.2.1, pr a.2.2.1 b.2.2.1, pr a.2.2.2 b.2.2.2)
def sec (a : St) : St := (fun k => a.1 (k + 100), fun k => a.2.1 (k + 100), fun k => a.2.2.1 (k + 100), fun k => a.2.2.2 (k + 100))
theorem wP_cut (cy : Nat → ClassId) (a b : Nat → Nat) (s t : St) : wP cy (pr a b) (mk2 s t) = wS cy a s ++ wS cy b t := rfl
def bec (st : St) : St := (sI (sA (sA (sI (sI (sA (sA (sI (sA (sA (sA st 1 (va_cpy (gA st 101) (gA st 1) 0 0 5)) 6 (va_cpy (gA st 106) (gA st 6) 0 0 8)) 7 (va_cpy (gA st 107) (gA st 7) 0 0 8)) 1 (gI st 101)) 2 (va_cpy (gA st 102) (gA st 2) 0 0 20)) 3 (va_cpy (gA st 103) (gA st 3) 0 0 20)) 2 (gI st 102)) 3 (gI st 103)) 4 (va_cpy (gA st 104) (gA st 4) 0 0 24)) 5 (va_cpy (gA st 105) (gA st 5) 0 0 24)) 4 (gI st 104))
theorem wp_bec (st : St) : wp_X7_become st (fun t => t = bec st) := by
  intro x1 e1; subst e1; intro x2 e2; subst e2; intro x3 e3; subst e3; intro x4 e4; subst e4; rfl
/-- one set-up after 'become': the first of the two is a copy of the second -/
def cpS (a b : St) : St := bec (mk2 a b)
theorem wP_bec (cy : Nat → ClassId) (a b : Nat → Nat) (s t : St) : wP cy (pr a b) (bec (mk2 s t)) = wS cy a (cpS s t) ++ wS cy b t := rfl
theorem isIm0 (post : Int32 → Prop) (h : post 1) : wp_X10_isImage 0 post := ⟨fun c => absurd c (by decide), fun _ => ⟨fun c => absurd c (by decide), fun _ => ⟨rfl, h⟩⟩⟩
theorem isIm1 (post : Int32 → Prop) (h : post 1) : wp_X10_isImage 1 post := ⟨fun c => absurd c (by decide), fun _ => ⟨fun c => absurd c (by decide), fun _ => ⟨rfl, h⟩⟩⟩
theorem isImN {n : Int32} (h0 : n ≠ 0) (h1 : n ≠ 1) (post : Int32 → Prop) (h : post 0) : wp_X10_isImage n post := by
  refine ⟨fun _ => ⟨rfl, h⟩, fun c => ⟨fun _ => ⟨rfl, h⟩, fun d => absurd ?_ h0⟩⟩
  have hc : ¬ n.toInt < 0 := fun z => c (Int32.lt_iff_toInt_lt.mpr z)
  have hd : ¬ 1 < n.toInt := fun z => d (Int32.lt_iff_toInt_lt.mpr z)
  have e1 : n.toInt ≠ 1 := fun z => h1 (Int32.toInt_inj.mp z)
  exact Int32.toInt_inj.mp (show n.toInt = 0 by omega)
def si0 : St := sA z0 1 zF
def adS (q : Nat) (z : Nat × Nat × Nat × Nat × Nat × Nat × Nat × Nat × Nat) : Nat → Nat := adl [0, 0, 0, q, z.1, z.2.1, z.2.2.1, z.2.2.2.1, z.2.2.2.2.1, z.2.2.2.2.2.1, z.2.2.2.2.2.2.1, z.2.2.2.2.2.2.2.1, z.2.2.2.2.2.2.2.2]
theorem wf7 (cy : Nat → ClassId) (q : Nat) (z : Nat × Nat × Nat × Nat × Nat × Nat × Nat × Nat × Nat) : wf_X7_init cy q z = wS cy (adS q z) si0 := rfl

def rm_X10_image : Room := { frames := 3, cells := 10, slots := 122, locals := 82 }
abbrev ws_X10_image : List Cond := .code yX10_image cX10_image 2 (some .int) :: wsL_law
def rm_X10_restore : Room := { frames := 3, cells := 0, slots := 0, locals := 82 }
abbrev ws_X10_restore : List Cond := .code yX10_restore cX10_restore 2 (some .int) :: wsL_law
set_option maxHeartbeats 4000000 in
set_option maxRecDepth 100000 in
theorem c_X10_image_0 (l : Launch) (D : va_G) (cy : Nat → ClassId) (tz ad : Nat → Nat) (st : St) (f : Nat → Option Nat) (b : Nat → Nat) (si : St) (i1 : Im) (hf : f 0 = some (b 3)) : CtNI l D cy tz yX10_image ws_X10_image rm_X10_image [.ref (ad 0), .int 0] (wY cy ad st f (some (b, si)) i1) (fun u : St => wY cy ad st f (some (b, u)) i1) (fun r u => r = 1 ∧ u = cpS si st) := by
  refine CtNI.of (own := RX10) (nm := "image") (lv := [(0, .ref (ad 0)), (1, .int 0)]) (plainFor_of_name (by decide)) rfl rfl (Nat.le_of_ble_eq_true rfl) rfl ?_
  intro p e s m args below meth c A Q ls B hX hP hD hS hl hret
  obtain ⟨hx, hb, hml, hown, hts, hK, hZ, hA, hnm⟩ := B
  have SF : CallFix p m c cX10_image 2 s args wsL_law RX10 := ⟨hx, hb, hml, hown, hts⟩
  refine lv_iload_n hx hb dX10_image_0 rfl (lv_at hl 1 rfl) ?_
  refine callSIr (rest := []) SF (c_X10_isImage l D cy tz _ 0 _ (isIm0 (fun r => r = 1) rfl)) (cw_RX10_269 hts ⟨Nat.le_of_ble_eq_true rfl, Nat.le_of_ble_eq_true rfl⟩) rfl rfl hK hZ hA hP hD hS rfl hl.1 rfl (Nat.le_of_ble_eq_true rfl) dX10_image_1 ⟨Nat.zero_le _, Nat.zero_le _⟩ (fun r1 H locs h hP hD hS => ?_)
  subst h
  refine lv_if_ne (tgt := 10) hx hb dX10_image_4 (by decide) (fun c1 => ?_) (fun c1 => ?_)
  · have hP : va_P D vwCl (wX cy ad st ++ (wJ cy ad f :: (wS cy b si ++ wIm cy i1))) H := hP
    have hD : va_D A (wX cy ad st ++ (wJ cy ad f :: (wS cy b si ++ wIm cy i1))) := hD
    have hv : va_rf (f (0 : Int32).toNatClampNeg) = .ref (b 3) := by rw [show (0 : Int32).toNatClampNeg = 0 from rfl, hf]; rfl
    refine lv_aload_n hx hb dX10_image_10 rfl (lv_at hl 0 rfl) ?_
    refine va_get (D := D) (ci := 9) (v := .ref (ad 23)) (C := RX10) (T := TX10) (N := 8) hx hb hts inlX10 hown hK hP 0 rfl rfl 2 (by decide) (hts _ w_1_20) (fun _ h9 => h9) rfl dX10_image_11 ?_
    refine lv_iload_n hx hb dX10_image_14 rfl (lv_at hl 1 rfl) ?_
    refine va_aldq (f := f) (n := 2) hx hb hK hP 23 3 rfl rfl (vin (by decide +kernel)) dX10_image_15 ?_
    rw [hv]
    refine lv_ifnonnull (tgt := 32) hx hb dX10_image_16 (by decide) ?_
    refine lv_aload_n hx hb dX10_image_32 rfl (lv_at hl 0 rfl) ?_
    refine va_get (D := D) (ci := 9) (v := .ref (ad 23)) (C := RX10) (T := TX10) (N := 8) hx hb hts inlX10 hown hK hP 0 rfl rfl 2 (by decide) (hts _ w_1_20) (fun _ h9 => h9) rfl dX10_image_33 ?_
    refine lv_iload_n hx hb dX10_image_36 rfl (lv_at hl 1 rfl) ?_
    refine va_aldq (f := f) (n := 2) hx hb hK hP 23 3 rfl rfl (vin (by decide +kernel)) dX10_image_37 ?_
    rw [hv]
    refine lv_aload_n hx hb dX10_image_38 rfl (lv_at hl 0 rfl) ?_
    refine va_get (D := D) (ci := 9) (v := .ref (ad 3)) (C := RX10) (T := TX10) (N := 8) hx hb hts inlX10 hown hK hP 0 rfl rfl 1 (by decide) (hts _ w_1_19) (fun _ h9 => h9) rfl dX10_image_39 ?_
    have pm := (show (wX cy ad st ++ (wJ cy ad f :: (wS cy b si ++ wIm cy i1)) : va_W).Perm ((w3 cy ad st ++ (w10 cy ad st ++ (wJ cy ad f :: wIm cy i1))) ++ (wS cy b si ++ wS cy ad st)) from pm_of (fun dc a => by simp only [wX_cut, List.count_append, List.count_cons, List.count_nil]; omega))
    have hP : va_P D vwCl ((w3 cy ad st ++ (w10 cy ad st ++ (wJ cy ad f :: wIm cy i1))) ++ wP cy (pr b ad) (mk2 si st)) H := pm_P pm hP
    have hD : va_D A ((w3 cy ad st ++ (w10 cy ad st ++ (wJ cy ad f :: wIm cy i1))) ++ wP cy (pr b ad) (mk2 si st)) := pm_D pm hD
    obtain ⟨hPw, hDw⟩ := part_r hP hD
    refine callTV (r := w3 cy ad st ++ (w10 cy ad st ++ (wJ cy ad f :: wIm cy i1))) (rest := []) SF (c_X7_become l D cy tz (pr b ad) (mk2 si st) _ (wp_bec _)) (cw_RX10_272 hts ⟨Nat.le_of_ble_eq_true rfl, Nat.le_of_ble_eq_true rfl⟩) rfl rfl (va_recv hK hPw (ci := 7) (q0 := 0) rfl rfl) hK hZ hA hP hD hS rfl hl.1 rfl (Nat.le_of_ble_eq_true rfl) dX10_image_42 ⟨Nat.zero_le _, Nat.zero_le _⟩ (fun t H locs h hP hD hS => ?_)
    subst h
    have hP : va_P D vwCl ((w3 cy ad st ++ (w10 cy ad st ++ (wJ cy ad f :: wIm cy i1))) ++ (wS cy b (cpS si st) ++ wS cy ad st)) H := hP
    have hD : va_D A ((w3 cy ad st ++ (w10 cy ad st ++ (wJ cy ad f :: wIm cy i1))) ++ (wS cy b (cpS si st) ++ wS cy ad st)) := hD
    have pm2 := (show ((w3 cy ad st ++ (w10 cy ad st ++ (wJ cy ad f :: wIm cy i1))) ++ (wS cy b (cpS si st) ++ wS cy ad st) : va_W).Perm (wX cy ad st ++ (wJ cy ad f :: (wS cy b (cpS si st) ++ wIm cy i1))) from pm_of (fun dc a => by simp only [wX_cut, List.count_append, List.count_cons, List.count_nil]; omega))
    have hP := pm_P pm2 hP
    have hD := pm_D pm2 hD
    refine lv_iconst (v := 1) hx hb dX10_image_45 (by decide) ?_
    refine W.widen (k := rm_X10_image.cells) (n := rm_X10_image.slots) (Nat.zero_le _) (Nat.zero_le _) ?_
    exact hret _ (cpS si st) _ _ _ _ ⟨rfl, rfl⟩ hP hD hS dX10_image_46
  · exact absurd c1 (by decide)
set_option maxHeartbeats 4000000 in
set_option maxRecDepth 100000 in
theorem c_X10_image_0n (l : Launch) (D : va_G) (cy : Nat → ClassId) (tz ad : Nat → Nat) (st : St) (f : Nat → Option Nat) (i1 : Im) (hf : f 0 = none) : CtNI l D cy tz yX10_image ws_X10_image rm_X10_image [.ref (ad 0), .int 0] (wY cy ad st f none i1) (fun u : (Nat → Nat) × (Nat → Option Nat) => wY cy ad st u.2 (some (u.1, cpS si0 st)) i1) (fun r u => r = 1 ∧ u.2 = va_up f 0 (some (u.1 3))) := by
  refine CtNI.of (own := RX10) (nm := "image") (lv := [(0, .ref (ad 0)), (1, .int 0)]) (plainFor_of_name (by decide)) rfl rfl (Nat.le_of_ble_eq_true rfl) rfl ?_
  intro p e s m args below meth c A Q ls B hX hP hD hS hl hret
  obtain ⟨hx, hb, hml, hown, hts, hK, hZ, hA, hnm⟩ := B
  have SF : CallFix p m c cX10_image 2 s args wsL_law RX10 := ⟨hx, hb, hml, hown, hts⟩
  refine lv_iload_n hx hb dX10_image_0 rfl (lv_at hl 1 rfl) ?_
  refine callSIr (rest := []) SF (c_X10_isImage l D cy tz _ 0 _ (isIm0 (fun r => r = 1) rfl)) (cw_RX10_269 hts ⟨Nat.le_of_ble_eq_true rfl, Nat.le_of_ble_eq_true rfl⟩) rfl rfl hK hZ hA hP hD hS rfl hl.1 rfl (Nat.le_of_ble_eq_true rfl) dX10_image_1 ⟨Nat.zero_le _, Nat.zero_le _⟩ (fun r1 H locs h hP hD hS => ?_)
  subst h
  refine lv_if_ne (tgt := 10) hx hb dX10_image_4 (by decide) (fun c1 => ?_) (fun c1 => ?_)
  · have hP : va_P D vwCl (wX cy ad st ++ (wJ cy ad f :: ([] ++ wIm cy i1))) H := hP
    have hD : va_D A (wX cy ad st ++ (wJ cy ad f :: ([] ++ wIm cy i1))) := hD
    have hv : va_rf (f (0 : Int32).toNatClampNeg) = .null := by rw [show (0 : Int32).toNatClampNeg = 0 from rfl, hf]; rfl
    refine lv_aload_n hx hb dX10_image_10 rfl (lv_at hl 0 rfl) ?_
    refine va_get (D := D) (ci := 9) (v := .ref (ad 23)) (C := RX10) (T := TX10) (N := 8) hx hb hts inlX10 hown hK hP 0 rfl rfl 2 (by decide) (hts _ w_1_20) (fun _ h9 => h9) rfl dX10_image_11 ?_
    refine lv_iload_n hx hb dX10_image_14 rfl (lv_at hl 1 rfl) ?_
    refine va_aldq (f := f) (n := 2) hx hb hK hP 23 3 rfl rfl (vin (by decide +kernel)) dX10_image_15 ?_
    rw [hv]
    refine lv_ifnonnullN hx hb dX10_image_16 ?_
    refine lv_aload_n hx hb dX10_image_19 rfl (lv_at hl 0 rfl) ?_
    refine va_get (D := D) (ci := 9) (v := .ref (ad 23)) (C := RX10) (T := TX10) (N := 8) hx hb hts inlX10 hown hK hP 0 rfl rfl 2 (by decide) (hts _ w_1_20) (fun _ h9 => h9) rfl dX10_image_20 ?_
    refine lv_iload_n hx hb dX10_image_23 rfl (lv_at hl 1 rfl) ?_
    refine va_new (ci := 7) (fs := [.null, .null, .null, .null, .null, .int 0]) (C := RX7) (T := TX7) (N := 6) hx hb hts inlX7 tyX7 tyX7_ok hown (hts _ w_1_16) (hts _ w_1_17) (hts _ w_1_18) hK hP hD hS hA rfl (fun j hj => by rcases (show j = 0 ∨ j = 1 ∨ j = 2 ∨ j = 3 ∨ j = 4 ∨ j = 5 by omega) with rfl | rfl | rfl | rfl | rfl | rfl <;> rfl) (Nat.le_of_ble_eq_true rfl) (Nat.le_of_ble_eq_true rfl) dX10_image_24 (fun q H hP hD hS => ?_)
    refine lv_dup hx hb dX10_image_27 rfl ?_
    refine callIN (r := wX cy ad st ++ (wJ cy ad f :: ([] ++ wIm cy i1))) (host := RX10) SF (c_X7_init l D cy tz q) ⟨va_cnB 0 hts (gdC w_2_23) rfl rfl rfl hZ.2.2.1 (hts _ w_1_18) (by decide +kernel) ⟨Nat.le_of_ble_eq_true rfl, Nat.le_of_ble_eq_true rfl⟩, rfl, hts _ w_2_22⟩ hK hZ hX hA hP hD hS hl.1 (Nat.le_of_ble_eq_true rfl) dX10_image_28 ⟨Nat.le_of_ble_eq_true rfl, Nat.le_of_ble_eq_true rfl⟩ (fun u H locs hw hP hD hS => ?_)
    have hPn : va_P D vwCl ((wX cy ad st ++ (wJ cy ad f :: ([] ++ wIm cy i1))) ++ wS cy (adS q u) si0) H := hP
    have hDn : va_D A ((wX cy ad st ++ (wJ cy ad f :: ([] ++ wIm cy i1))) ++ wS cy (adS q u) si0) := hD
    have hb3 : adS q u 3 = q := rfl
    generalize adS q u = b at hPn hDn hb3
    subst hb3
    have hP : va_P D vwCl (wS cy b si0 ++ (wX cy ad st ++ (wJ cy ad f :: ([] ++ wIm cy i1)))) H := pm_P List.perm_append_comm hPn
    have hD : va_D A (wS cy b si0 ++ (wX cy ad st ++ (wJ cy ad f :: ([] ++ wIm cy i1)))) := pm_D List.perm_append_comm hDn
    refine va_astq (f := f) (n := 2) hx hb hK hP hD hS 33 3 0 7 rfl rfl rfl rfl (vin (by decide +kernel)) dX10_image_31 (fun H locs hP hD hS => ?_)
    generalize hf2 : va_up f (0 : Int32).toNatClampNeg (some (b 3)) = f2 at hP hD
    have hP : va_P D vwCl (wS cy b si0 ++ (wX cy ad st ++ (wJ cy ad f2 :: ([] ++ wIm cy i1)))) H := hP
    have hD : va_D A (wS cy b si0 ++ (wX cy ad st ++ (wJ cy ad f2 :: ([] ++ wIm cy i1)))) := hD
    have hv : va_rf (f2 (0 : Int32).toNatClampNeg) = .ref (b 3) := by rw [← hf2]; rfl
    refine lv_aload_n hx hb dX10_image_32 rfl (lv_at hl 0 rfl) ?_
    refine va_get (D := D) (ci := 9) (v := .ref (ad 23)) (C := RX10) (T := TX10) (N := 8) hx hb hts inlX10 hown hK hP 10 rfl rfl 2 (by decide) (hts _ w_1_20) (fun _ h9 => h9) rfl dX10_image_33 ?_
    refine lv_iload_n hx hb dX10_image_36 rfl (lv_at hl 1 rfl) ?_
    refine va_aldq (f := f2) (n := 2) hx hb hK hP 33 3 rfl rfl (vin (by decide +kernel)) dX10_image_37 ?_
    rw [hv]
    refine lv_aload_n hx hb dX10_image_38 rfl (lv_at hl 0 rfl) ?_
    refine va_get (D := D) (ci := 9) (v := .ref (ad 3)) (C := RX10) (T := TX10) (N := 8) hx hb hts inlX10 hown hK hP 10 rfl rfl 1 (by decide) (hts _ w_1_19) (fun _ h9 => h9) rfl dX10_image_39 ?_
    have pm := (show (wS cy b si0 ++ (wX cy ad st ++ (wJ cy ad f2 :: ([] ++ wIm cy i1))) : va_W).Perm ((w3 cy ad st ++ (w10 cy ad st ++ (wJ cy ad f2 :: wIm cy i1))) ++ (wS cy b si0 ++ wS cy ad st)) from pm_of (fun dc a => by simp only [wX_cut, List.count_append, List.count_cons, List.count_nil]; omega))
    have hP : va_P D vwCl ((w3 cy ad st ++ (w10 cy ad st ++ (wJ cy ad f2 :: wIm cy i1))) ++ wP cy (pr b ad) (mk2 si0 st)) H := pm_P pm hP
    have hD : va_D A ((w3 cy ad st ++ (w10 cy ad st ++ (wJ cy ad f2 :: wIm cy i1))) ++ wP cy (pr b ad) (mk2 si0 st)) := pm_D pm hD
    obtain ⟨hPw, hDw⟩ := part_r hP hD
    refine callTV (r := w3 cy ad st ++ (w10 cy ad st ++ (wJ cy ad f2 :: wIm cy i1))) (rest := []) SF (c_X7_become l D cy tz (pr b ad) (mk2 si0 st) _ (wp_bec _)) (cw_RX10_272 hts ⟨Nat.le_of_ble_eq_true rfl, Nat.le_of_ble_eq_true rfl⟩) rfl rfl (va_recv hK hPw (ci := 7) (q0 := 0) rfl rfl) hK hZ hA hP hD hS rfl hl.1 rfl (Nat.le_of_ble_eq_true rfl) dX10_image_42 ⟨Nat.le_of_ble_eq_true rfl, Nat.le_of_ble_eq_true rfl⟩ (fun t H locs h hP hD hS => ?_)
    subst h
    have hP : va_P D vwCl ((w3 cy ad st ++ (w10 cy ad st ++ (wJ cy ad f2 :: wIm cy i1))) ++ (wS cy b (cpS si0 st) ++ wS cy ad st)) H := hP
    have hD : va_D A ((w3 cy ad st ++ (w10 cy ad st ++ (wJ cy ad f2 :: wIm cy i1))) ++ (wS cy b (cpS si0 st) ++ wS cy ad st)) := hD
    have pm2 := (show ((w3 cy ad st ++ (w10 cy ad st ++ (wJ cy ad f2 :: wIm cy i1))) ++ (wS cy b (cpS si0 st) ++ wS cy ad st) : va_W).Perm (wX cy ad st ++ (wJ cy ad f2 :: (wS cy b (cpS si0 st) ++ wIm cy i1))) from pm_of (fun dc a => by simp only [wX_cut, List.count_append, List.count_cons, List.count_nil]; omega))
    have hP := pm_P pm2 hP
    have hD := pm_D pm2 hD
    refine lv_iconst (v := 1) hx hb dX10_image_45 (by decide) ?_
    exact hret _ (b, f2) _ _ _ _ ⟨rfl, hf2.symm⟩ hP hD hS dX10_image_46
  · exact absurd c1 (by decide)
/-- the class behind restore: its set-up is a copy of the image's, the rest is as it was -/
def rsX (a st : St) : St := ((fun k => if k = 1 ∨ k = 2 ∨ k = 3 ∨ k = 4 then (cpS st a).1 k else st.1 k), st.2.1, (fun k => if k = 1 ∨ k = 2 ∨ k = 3 ∨ k = 4 ∨ k = 5 ∨ k = 6 ∨ k = 7 then (cpS st a).2.2.1 k else st.2.2.1 k), st.2.2.2)
def EqX (u a st : St) : Prop := u = rsX a st
theorem wX_rs (cy : Nat → ClassId) (ad : Nat → Nat) (a st : St) : wX cy ad (rsX a st) = w3 cy ad st ++ (wS cy ad (cpS st a) ++ w10 cy ad st) := rfl
set_option maxHeartbeats 4000000 in
set_option maxRecDepth 100000 in
theorem c_X10_restore_0 (l : Launch) (D : va_G) (cy : Nat → ClassId) (tz ad : Nat → Nat) (st : St) (f : Nat → Option Nat) (b : Nat → Nat) (si : St) (i1 : Im) (hf : f 0 = some (b 3)) : CtI l D cy tz yX10_restore ws_X10_restore rm_X10_restore [.ref (ad 0), .int 0] (wY cy ad st f (some (b, si)) i1) (fun u : St => wY cy ad u f (some (b, si)) i1) (fun r u => r = 1 ∧ EqX u si st) := by
  refine CtI.of (own := RX10) (nm := "restore") (lv := [(0, .ref (ad 0)), (1, .int 0)]) (plainFor_of_name (by decide)) rfl rfl (Nat.le_of_ble_eq_true rfl) rfl ?_
  intro p e s m args below meth c A Q ls B hP hD hS hl hret
  obtain ⟨hx, hb, hml, hown, hts, hK, hZ, hA, hnm⟩ := B
  have SF : CallFix p m c cX10_restore 2 s args wsL_law RX10 := ⟨hx, hb, hml, hown, hts⟩
  refine lv_iload_n hx hb dX10_restore_0 rfl (lv_at hl 1 rfl) ?_
  refine callSIr (rest := []) SF (c_X10_isImage l D cy tz _ 0 _ (isIm0 (fun r => r = 1) rfl)) (cw_RX10_269 hts ⟨Nat.le_of_ble_eq_true rfl, Nat.le_of_ble_eq_true rfl⟩) rfl rfl hK hZ hA hP hD hS rfl hl.1 rfl (Nat.le_of_ble_eq_true rfl) dX10_restore_1 ⟨Nat.zero_le _, Nat.zero_le _⟩ (fun r1 H locs h hP hD hS => ?_)
  subst h
  refine lv_if_ne (tgt := 10) hx hb dX10_restore_4 (by decide) (fun c1 => ?_) (fun c1 => ?_)
  · have hP : va_P D vwCl (wX cy ad st ++ (wJ cy ad f :: (wS cy b si ++ wIm cy i1))) H := hP
    have hD : va_D A (wX cy ad st ++ (wJ cy ad f :: (wS cy b si ++ wIm cy i1))) := hD
    have hv : va_rf (f (0 : Int32).toNatClampNeg) = .ref (b 3) := by rw [show (0 : Int32).toNatClampNeg = 0 from rfl, hf]; rfl
    refine lv_aload_n hx hb dX10_restore_10 rfl (lv_at hl 0 rfl) ?_
    refine va_get (D := D) (ci := 9) (v := .ref (ad 23)) (C := RX10) (T := TX10) (N := 8) hx hb hts inlX10 hown hK hP 0 rfl rfl 2 (by decide) (hts _ w_1_20) (fun _ h9 => h9) rfl dX10_restore_11 ?_
    refine lv_iload_n hx hb dX10_restore_14 rfl (lv_at hl 1 rfl) ?_
    refine va_aldq (f := f) (n := 2) hx hb hK hP 23 3 rfl rfl (vin (by decide +kernel)) dX10_restore_15 ?_
    rw [hv]
    refine lv_ifnonnull (tgt := 22) hx hb dX10_restore_16 (by decide) ?_
    refine lv_aload_n hx hb dX10_restore_22 rfl (lv_at hl 0 rfl) ?_
    refine va_get (D := D) (ci := 9) (v := .ref (ad 3)) (C := RX10) (T := TX10) (N := 8) hx hb hts inlX10 hown hK hP 0 rfl rfl 1 (by decide) (hts _ w_1_19) (fun _ h9 => h9) rfl dX10_restore_23 ?_
    refine lv_aload_n hx hb dX10_restore_26 rfl (lv_at hl 0 rfl) ?_
    refine va_get (D := D) (ci := 9) (v := .ref (ad 23)) (C := RX10) (T := TX10) (N := 8) hx hb hts inlX10 hown hK hP 0 rfl rfl 2 (by decide) (hts _ w_1_20) (fun _ h9 => h9) rfl dX10_restore_27 ?_
    refine lv_iload_n hx hb dX10_restore_30 rfl (lv_at hl 1 rfl) ?_
    refine va_aldq (f := f) (n := 2) hx hb hK hP 23 3 rfl rfl (vin (by decide +kernel)) dX10_restore_31 ?_
    rw [hv]
    have pm := (show (wX cy ad st ++ (wJ cy ad f :: (wS cy b si ++ wIm cy i1)) : va_W).Perm ((w3 cy ad st ++ (w10 cy ad st ++ (wJ cy ad f :: wIm cy i1))) ++ (wS cy ad st ++ wS cy b si)) from pm_of (fun dc a => by simp only [wX_cut, List.count_append, List.count_cons, List.count_nil]; omega))
    have hP : va_P D vwCl ((w3 cy ad st ++ (w10 cy ad st ++ (wJ cy ad f :: wIm cy i1))) ++ wP cy (pr ad b) (mk2 st si)) H := pm_P pm hP
    have hD : va_D A ((w3 cy ad st ++ (w10 cy ad st ++ (wJ cy ad f :: wIm cy i1))) ++ wP cy (pr ad b) (mk2 st si)) := pm_D pm hD
    obtain ⟨hPw, hDw⟩ := part_r hP hD
    refine callTV (r := w3 cy ad st ++ (w10 cy ad st ++ (wJ cy ad f :: wIm cy i1))) (rest := []) SF (c_X7_become l D cy tz (pr ad b) (mk2 st si) _ (wp_bec _)) (cw_RX10_272 hts ⟨Nat.le_of_ble_eq_true rfl, Nat.le_of_ble_eq_true rfl⟩) rfl rfl (va_recv hK hPw (ci := 7) (q0 := 0) rfl rfl) hK hZ hA hP hD hS rfl hl.1 rfl (Nat.le_of_ble_eq_true rfl) dX10_restore_32 ⟨Nat.zero_le _, Nat.zero_le _⟩ (fun t H locs h hP hD hS => ?_)
    subst h
    have hP : va_P D vwCl ((w3 cy ad st ++ (w10 cy ad st ++ (wJ cy ad f :: wIm cy i1))) ++ (wS cy ad (cpS st si) ++ wS cy b si)) H := hP
    have hD : va_D A ((w3 cy ad st ++ (w10 cy ad st ++ (wJ cy ad f :: wIm cy i1))) ++ (wS cy ad (cpS st si) ++ wS cy b si)) := hD
    have pm2 := (show ((w3 cy ad st ++ (w10 cy ad st ++ (wJ cy ad f :: wIm cy i1))) ++ (wS cy ad (cpS st si) ++ wS cy b si) : va_W).Perm ((w3 cy ad st ++ (wS cy ad (cpS st si) ++ w10 cy ad st)) ++ (wJ cy ad f :: (wS cy b si ++ wIm cy i1))) from pm_of (fun dc a => by simp only [wX_cut, List.count_append, List.count_cons, List.count_nil]; omega))
    have hP := pm_P pm2 hP
    have hD := pm_D pm2 hD
    refine lv_iconst (v := 1) hx hb dX10_restore_35 (by decide) ?_
    exact hret _ (rsX si st) _ _ _ _ rfl ⟨rfl, rfl⟩ hP hD hS dX10_restore_36
  · exact absurd c1 (by decide)
set_option maxHeartbeats 4000000 in
set_option maxRecDepth 100000 in
theorem c_X10_restore_0n (l : Launch) (D : va_G) (cy : Nat → ClassId) (tz ad : Nat → Nat) (st : St) (f : Nat → Option Nat) (i1 : Im) (hf : f 0 = none) : CtI l D cy tz yX10_restore ws_X10_restore rm_X10_restore [.ref (ad 0), .int 0] (wY cy ad st f none i1) (fun _ : Unit => wY cy ad st f none i1) (fun r _ => r = (-3)) := by
  refine CtI.of (own := RX10) (nm := "restore") (lv := [(0, .ref (ad 0)), (1, .int 0)]) (plainFor_of_name (by decide)) rfl rfl (Nat.le_of_ble_eq_true rfl) rfl ?_
  intro p e s m args below meth c A Q ls B hP hD hS hl hret
  obtain ⟨hx, hb, hml, hown, hts, hK, hZ, hA, hnm⟩ := B
  have SF : CallFix p m c cX10_restore 2 s args wsL_law RX10 := ⟨hx, hb, hml, hown, hts⟩
  refine lv_iload_n hx hb dX10_restore_0 rfl (lv_at hl 1 rfl) ?_
  refine callSIr (rest := []) SF (c_X10_isImage l D cy tz _ 0 _ (isIm0 (fun r => r = 1) rfl)) (cw_RX10_269 hts ⟨Nat.le_of_ble_eq_true rfl, Nat.le_of_ble_eq_true rfl⟩) rfl rfl hK hZ hA hP hD hS rfl hl.1 rfl (Nat.le_of_ble_eq_true rfl) dX10_restore_1 ⟨Nat.zero_le _, Nat.zero_le _⟩ (fun r1 H locs h hP hD hS => ?_)
  subst h
  refine lv_if_ne (tgt := 10) hx hb dX10_restore_4 (by decide) (fun c1 => ?_) (fun c1 => ?_)
  · have hP : va_P D vwCl (wX cy ad st ++ (wJ cy ad f :: ([] ++ wIm cy i1))) H := hP
    have hD : va_D A (wX cy ad st ++ (wJ cy ad f :: ([] ++ wIm cy i1))) := hD
    have hv : va_rf (f (0 : Int32).toNatClampNeg) = .null := by rw [show (0 : Int32).toNatClampNeg = 0 from rfl, hf]; rfl
    refine lv_aload_n hx hb dX10_restore_10 rfl (lv_at hl 0 rfl) ?_
    refine va_get (D := D) (ci := 9) (v := .ref (ad 23)) (C := RX10) (T := TX10) (N := 8) hx hb hts inlX10 hown hK hP 0 rfl rfl 2 (by decide) (hts _ w_1_20) (fun _ h9 => h9) rfl dX10_restore_11 ?_
    refine lv_iload_n hx hb dX10_restore_14 rfl (lv_at hl 1 rfl) ?_
    refine va_aldq (f := f) (n := 2) hx hb hK hP 23 3 rfl rfl (vin (by decide +kernel)) dX10_restore_15 ?_
    rw [hv]
    refine lv_ifnonnullN hx hb dX10_restore_16 ?_
    refine lv_bipush (v := (-3)) hx hb dX10_restore_19 (by decide) ?_
    exact hret _ () _ _ _ _ rfl rfl hP hD hS dX10_restore_21
  · exact absurd c1 (by decide)
set_option maxHeartbeats 4000000 in
set_option maxRecDepth 100000 in
theorem c_X10_image_1 (l : Launch) (D : va_G) (cy : Nat → ClassId) (tz ad : Nat → Nat) (st : St) (f : Nat → Option Nat) (b : Nat → Nat) (si : St) (i0 : Im) (hf : f 1 = some (b 3)) : CtNI l D cy tz yX10_image ws_X10_image rm_X10_image [.ref (ad 0), .int 1] (wY cy ad st f i0 (some (b, si))) (fun u : St => wY cy ad st f i0 (some (b, u))) (fun r u => r = 1 ∧ u = cpS si st) := by
  refine CtNI.of (own := RX10) (nm := "image") (lv := [(0, .ref (ad 0)), (1, .int 1)]) (plainFor_of_name (by decide)) rfl rfl (Nat.le_of_ble_eq_true rfl) rfl ?_
  intro p e s m args below meth c A Q ls B hX hP hD hS hl hret
  obtain ⟨hx, hb, hml, hown, hts, hK, hZ, hA, hnm⟩ := B
  have SF : CallFix p m c cX10_image 2 s args wsL_law RX10 := ⟨hx, hb, hml, hown, hts⟩
  refine lv_iload_n hx hb dX10_image_0 rfl (lv_at hl 1 rfl) ?_
  refine callSIr (rest := []) SF (c_X10_isImage l D cy tz _ 1 _ (isIm1 (fun r => r = 1) rfl)) (cw_RX10_269 hts ⟨Nat.le_of_ble_eq_true rfl, Nat.le_of_ble_eq_true rfl⟩) rfl rfl hK hZ hA hP hD hS rfl hl.1 rfl (Nat.le_of_ble_eq_true rfl) dX10_image_1 ⟨Nat.zero_le _, Nat.zero_le _⟩ (fun r1 H locs h hP hD hS => ?_)
  subst h
  refine lv_if_ne (tgt := 10) hx hb dX10_image_4 (by decide) (fun c1 => ?_) (fun c1 => ?_)
  · have hP : va_P D vwCl (wX cy ad st ++ (wJ cy ad f :: (wIm cy i0 ++ wS cy b si))) H := hP
    have hD : va_D A (wX cy ad st ++ (wJ cy ad f :: (wIm cy i0 ++ wS cy b si))) := hD
    have hv : va_rf (f (1 : Int32).toNatClampNeg) = .ref (b 3) := by rw [show (1 : Int32).toNatClampNeg = 1 from rfl, hf]; rfl
    refine lv_aload_n hx hb dX10_image_10 rfl (lv_at hl 0 rfl) ?_
    refine va_get (D := D) (ci := 9) (v := .ref (ad 23)) (C := RX10) (T := TX10) (N := 8) hx hb hts inlX10 hown hK hP 0 rfl rfl 2 (by decide) (hts _ w_1_20) (fun _ h9 => h9) rfl dX10_image_11 ?_
    refine lv_iload_n hx hb dX10_image_14 rfl (lv_at hl 1 rfl) ?_
    refine va_aldq (f := f) (n := 2) hx hb hK hP 23 3 rfl rfl (vin (by decide +kernel)) dX10_image_15 ?_
    rw [hv]
    refine lv_ifnonnull (tgt := 32) hx hb dX10_image_16 (by decide) ?_
    refine lv_aload_n hx hb dX10_image_32 rfl (lv_at hl 0 rfl) ?_
    refine va_get (D := D) (ci := 9) (v := .ref (ad 23)) (C := RX10) (T := TX10) (N := 8) hx hb hts inlX10 hown hK hP 0 rfl rfl 2 (by decide) (hts _ w_1_20) (fun _ h9 => h9) rfl dX10_image_33 ?_
    refine lv_iload_n hx hb dX10_image_36 rfl (lv_at hl 1 rfl) ?_
    refine va_aldq (f := f) (n := 2) hx hb hK hP 23 3 rfl rfl (vin (by decide +kernel)) dX10_image_37 ?_
    rw [hv]
    refine lv_aload_n hx hb dX10_image_38 rfl (lv_at hl 0 rfl) ?_
    refine va_get (D := D) (ci := 9) (v := .ref (ad 3)) (C := RX10) (T := TX10) (N := 8) hx hb hts inlX10 hown hK hP 0 rfl rfl 1 (by decide) (hts _ w_1_19) (fun _ h9 => h9) rfl dX10_image_39 ?_
    have pm := (show (wX cy ad st ++ (wJ cy ad f :: (wIm cy i0 ++ wS cy b si)) : va_W).Perm ((w3 cy ad st ++ (w10 cy ad st ++ (wJ cy ad f :: wIm cy i0))) ++ (wS cy b si ++ wS cy ad st)) from pm_of (fun dc a => by simp only [wX_cut, List.count_append, List.count_cons, List.count_nil]; omega))
    have hP : va_P D vwCl ((w3 cy ad st ++ (w10 cy ad st ++ (wJ cy ad f :: wIm cy i0))) ++ wP cy (pr b ad) (mk2 si st)) H := pm_P pm hP
    have hD : va_D A ((w3 cy ad st ++ (w10 cy ad st ++ (wJ cy ad f :: wIm cy i0))) ++ wP cy (pr b ad) (mk2 si st)) := pm_D pm hD
    obtain ⟨hPw, hDw⟩ := part_r hP hD
    refine callTV (r := w3 cy ad st ++ (w10 cy ad st ++ (wJ cy ad f :: wIm cy i0))) (rest := []) SF (c_X7_become l D cy tz (pr b ad) (mk2 si st) _ (wp_bec _)) (cw_RX10_272 hts ⟨Nat.le_of_ble_eq_true rfl, Nat.le_of_ble_eq_true rfl⟩) rfl rfl (va_recv hK hPw (ci := 7) (q0 := 0) rfl rfl) hK hZ hA hP hD hS rfl hl.1 rfl (Nat.le_of_ble_eq_true rfl) dX10_image_42 ⟨Nat.zero_le _, Nat.zero_le _⟩ (fun t H locs h hP hD hS => ?_)
    subst h
    have hP : va_P D vwCl ((w3 cy ad st ++ (w10 cy ad st ++ (wJ cy ad f :: wIm cy i0))) ++ (wS cy b (cpS si st) ++ wS cy ad st)) H := hP
    have hD : va_D A ((w3 cy ad st ++ (w10 cy ad st ++ (wJ cy ad f :: wIm cy i0))) ++ (wS cy b (cpS si st) ++ wS cy ad st)) := hD
    have pm2 := (show ((w3 cy ad st ++ (w10 cy ad st ++ (wJ cy ad f :: wIm cy i0))) ++ (wS cy b (cpS si st) ++ wS cy ad st) : va_W).Perm (wX cy ad st ++ (wJ cy ad f :: (wIm cy i0 ++ wS cy b (cpS si st)))) from pm_of (fun dc a => by simp only [wX_cut, List.count_append, List.count_cons, List.count_nil]; omega))
    have hP := pm_P pm2 hP
    have hD := pm_D pm2 hD
    refine lv_iconst (v := 1) hx hb dX10_image_45 (by decide) ?_
    refine W.widen (k := rm_X10_image.cells) (n := rm_X10_image.slots) (Nat.zero_le _) (Nat.zero_le _) ?_
    exact hret _ (cpS si st) _ _ _ _ ⟨rfl, rfl⟩ hP hD hS dX10_image_46
  · exact absurd c1 (by decide)
set_option maxHeartbeats 4000000 in
set_option maxRecDepth 100000 in
theorem c_X10_image_1n (l : Launch) (D : va_G) (cy : Nat → ClassId) (tz ad : Nat → Nat) (st : St) (f : Nat → Option Nat) (i0 : Im) (hf : f 1 = none) : CtNI l D cy tz yX10_image ws_X10_image rm_X10_image [.ref (ad 0), .int 1] (wY cy ad st f i0 none) (fun u : (Nat → Nat) × (Nat → Option Nat) => wY cy ad st u.2 i0 (some (u.1, cpS si0 st))) (fun r u => r = 1 ∧ u.2 = va_up f 1 (some (u.1 3))) := by
  refine CtNI.of (own := RX10) (nm := "image") (lv := [(0, .ref (ad 0)), (1, .int 1)]) (plainFor_of_name (by decide)) rfl rfl (Nat.le_of_ble_eq_true rfl) rfl ?_
  intro p e s m args below meth c A Q ls B hX hP hD hS hl hret
  obtain ⟨hx, hb, hml, hown, hts, hK, hZ, hA, hnm⟩ := B
  have SF : CallFix p m c cX10_image 2 s args wsL_law RX10 := ⟨hx, hb, hml, hown, hts⟩
  refine lv_iload_n hx hb dX10_image_0 rfl (lv_at hl 1 rfl) ?_
  refine callSIr (rest := []) SF (c_X10_isImage l D cy tz _ 1 _ (isIm1 (fun r => r = 1) rfl)) (cw_RX10_269 hts ⟨Nat.le_of_ble_eq_true rfl, Nat.le_of_ble_eq_true rfl⟩) rfl rfl hK hZ hA hP hD hS rfl hl.1 rfl (Nat.le_of_ble_eq_true rfl) dX10_image_1 ⟨Nat.zero_le _, Nat.zero_le _⟩ (fun r1 H locs h hP hD hS => ?_)
  subst h
  refine lv_if_ne (tgt := 10) hx hb dX10_image_4 (by decide) (fun c1 => ?_) (fun c1 => ?_)
  · have hP : va_P D vwCl (wX cy ad st ++ (wJ cy ad f :: (wIm cy i0 ++ []))) H := hP
    have hD : va_D A (wX cy ad st ++ (wJ cy ad f :: (wIm cy i0 ++ []))) := hD
    have hv : va_rf (f (1 : Int32).toNatClampNeg) = .null := by rw [show (1 : Int32).toNatClampNeg = 1 from rfl, hf]; rfl
    refine lv_aload_n hx hb dX10_image_10 rfl (lv_at hl 0 rfl) ?_
    refine va_get (D := D) (ci := 9) (v := .ref (ad 23)) (C := RX10) (T := TX10) (N := 8) hx hb hts inlX10 hown hK hP 0 rfl rfl 2 (by decide) (hts _ w_1_20) (fun _ h9 => h9) rfl dX10_image_11 ?_
    refine lv_iload_n hx hb dX10_image_14 rfl (lv_at hl 1 rfl) ?_
    refine va_aldq (f := f) (n := 2) hx hb hK hP 23 3 rfl rfl (vin (by decide +kernel)) dX10_image_15 ?_
    rw [hv]
    refine lv_ifnonnullN hx hb dX10_image_16 ?_
    refine lv_aload_n hx hb dX10_image_19 rfl (lv_at hl 0 rfl) ?_
    refine va_get (D := D) (ci := 9) (v := .ref (ad 23)) (C := RX10) (T := TX10) (N := 8) hx hb hts inlX10 hown hK hP 0 rfl rfl 2 (by decide) (hts _ w_1_20) (fun _ h9 => h9) rfl dX10_image_20 ?_
    refine lv_iload_n hx hb dX10_image_23 rfl (lv_at hl 1 rfl) ?_
    refine va_new (ci := 7) (fs := [.null, .null, .null, .null, .null, .int 0]) (C := RX7) (T := TX7) (N := 6) hx hb hts inlX7 tyX7 tyX7_ok hown (hts _ w_1_16) (hts _ w_1_17) (hts _ w_1_18) hK hP hD hS hA rfl (fun j hj => by rcases (show j = 0 ∨ j = 1 ∨ j = 2 ∨ j = 3 ∨ j = 4 ∨ j = 5 by omega) with rfl | rfl | rfl | rfl | rfl | rfl <;> rfl) (Nat.le_of_ble_eq_true rfl) (Nat.le_of_ble_eq_true rfl) dX10_image_24 (fun q H hP hD hS => ?_)
    refine lv_dup hx hb dX10_image_27 rfl ?_
    refine callIN (r := wX cy ad st ++ (wJ cy ad f :: (wIm cy i0 ++ []))) (host := RX10) SF (c_X7_init l D cy tz q) ⟨va_cnB 0 hts (gdC w_2_23) rfl rfl rfl hZ.2.2.1 (hts _ w_1_18) (by decide +kernel) ⟨Nat.le_of_ble_eq_true rfl, Nat.le_of_ble_eq_true rfl⟩, rfl, hts _ w_2_22⟩ hK hZ hX hA hP hD hS hl.1 (Nat.le_of_ble_eq_true rfl) dX10_image_28 ⟨Nat.le_of_ble_eq_true rfl, Nat.le_of_ble_eq_true rfl⟩ (fun u H locs hw hP hD hS => ?_)
    have hPn : va_P D vwCl ((wX cy ad st ++ (wJ cy ad f :: (wIm cy i0 ++ []))) ++ wS cy (adS q u) si0) H := hP
    have hDn : va_D A ((wX cy ad st ++ (wJ cy ad f :: (wIm cy i0 ++ []))) ++ wS cy (adS q u) si0) := hD
    have hb3 : adS q u 3 = q := rfl
    generalize adS q u = b at hPn hDn hb3
    subst hb3
    have hP : va_P D vwCl (wS cy b si0 ++ (wX cy ad st ++ (wJ cy ad f :: (wIm cy i0 ++ [])))) H := pm_P List.perm_append_comm hPn
    have hD : va_D A (wS cy b si0 ++ (wX cy ad st ++ (wJ cy ad f :: (wIm cy i0 ++ [])))) := pm_D List.perm_append_comm hDn
    refine va_astq (f := f) (n := 2) hx hb hK hP hD hS 33 3 0 7 rfl rfl rfl rfl (vin (by decide +kernel)) dX10_image_31 (fun H locs hP hD hS => ?_)
    generalize hf2 : va_up f (1 : Int32).toNatClampNeg (some (b 3)) = f2 at hP hD
    have hP : va_P D vwCl (wS cy b si0 ++ (wX cy ad st ++ (wJ cy ad f2 :: (wIm cy i0 ++ [])))) H := hP
    have hD : va_D A (wS cy b si0 ++ (wX cy ad st ++ (wJ cy ad f2 :: (wIm cy i0 ++ [])))) := hD
    have hv : va_rf (f2 (1 : Int32).toNatClampNeg) = .ref (b 3) := by rw [← hf2]; rfl
    refine lv_aload_n hx hb dX10_image_32 rfl (lv_at hl 0 rfl) ?_
    refine va_get (D := D) (ci := 9) (v := .ref (ad 23)) (C := RX10) (T := TX10) (N := 8) hx hb hts inlX10 hown hK hP 10 rfl rfl 2 (by decide) (hts _ w_1_20) (fun _ h9 => h9) rfl dX10_image_33 ?_
    refine lv_iload_n hx hb dX10_image_36 rfl (lv_at hl 1 rfl) ?_
    refine va_aldq (f := f2) (n := 2) hx hb hK hP 33 3 rfl rfl (vin (by decide +kernel)) dX10_image_37 ?_
    rw [hv]
    refine lv_aload_n hx hb dX10_image_38 rfl (lv_at hl 0 rfl) ?_
    refine va_get (D := D) (ci := 9) (v := .ref (ad 3)) (C := RX10) (T := TX10) (N := 8) hx hb hts inlX10 hown hK hP 10 rfl rfl 1 (by decide) (hts _ w_1_19) (fun _ h9 => h9) rfl dX10_image_39 ?_
    have pm := (show (wS cy b si0 ++ (wX cy ad st ++ (wJ cy ad f2 :: (wIm cy i0 ++ []))) : va_W).Perm ((w3 cy ad st ++ (w10 cy ad st ++ (wJ cy ad f2 :: wIm cy i0))) ++ (wS cy b si0 ++ wS cy ad st)) from pm_of (fun dc a => by simp only [wX_cut, List.count_append, List.count_cons, List.count_nil]; omega))
    have hP : va_P D vwCl ((w3 cy ad st ++ (w10 cy ad st ++ (wJ cy ad f2 :: wIm cy i0))) ++ wP cy (pr b ad) (mk2 si0 st)) H := pm_P pm hP
    have hD : va_D A ((w3 cy ad st ++ (w10 cy ad st ++ (wJ cy ad f2 :: wIm cy i0))) ++ wP cy (pr b ad) (mk2 si0 st)) := pm_D pm hD
    obtain ⟨hPw, hDw⟩ := part_r hP hD
    refine callTV (r := w3 cy ad st ++ (w10 cy ad st ++ (wJ cy ad f2 :: wIm cy i0))) (rest := []) SF (c_X7_become l D cy tz (pr b ad) (mk2 si0 st) _ (wp_bec _)) (cw_RX10_272 hts ⟨Nat.le_of_ble_eq_true rfl, Nat.le_of_ble_eq_true rfl⟩) rfl rfl (va_recv hK hPw (ci := 7) (q0 := 0) rfl rfl) hK hZ hA hP hD hS rfl hl.1 rfl (Nat.le_of_ble_eq_true rfl) dX10_image_42 ⟨Nat.le_of_ble_eq_true rfl, Nat.le_of_ble_eq_true rfl⟩ (fun t H locs h hP hD hS => ?_)
    subst h
    have hP : va_P D vwCl ((w3 cy ad st ++ (w10 cy ad st ++ (wJ cy ad f2 :: wIm cy i0))) ++ (wS cy b (cpS si0 st) ++ wS cy ad st)) H := hP
    have hD : va_D A ((w3 cy ad st ++ (w10 cy ad st ++ (wJ cy ad f2 :: wIm cy i0))) ++ (wS cy b (cpS si0 st) ++ wS cy ad st)) := hD
    have pm2 := (show ((w3 cy ad st ++ (w10 cy ad st ++ (wJ cy ad f2 :: wIm cy i0))) ++ (wS cy b (cpS si0 st) ++ wS cy ad st) : va_W).Perm (wX cy ad st ++ (wJ cy ad f2 :: (wIm cy i0 ++ wS cy b (cpS si0 st)))) from pm_of (fun dc a => by simp only [wX_cut, List.count_append, List.count_cons, List.count_nil]; omega))
    have hP := pm_P pm2 hP
    have hD := pm_D pm2 hD
    refine lv_iconst (v := 1) hx hb dX10_image_45 (by decide) ?_
    exact hret _ (b, f2) _ _ _ _ ⟨rfl, hf2.symm⟩ hP hD hS dX10_image_46
  · exact absurd c1 (by decide)
set_option maxHeartbeats 4000000 in
set_option maxRecDepth 100000 in
theorem c_X10_restore_1 (l : Launch) (D : va_G) (cy : Nat → ClassId) (tz ad : Nat → Nat) (st : St) (f : Nat → Option Nat) (b : Nat → Nat) (si : St) (i0 : Im) (hf : f 1 = some (b 3)) : CtI l D cy tz yX10_restore ws_X10_restore rm_X10_restore [.ref (ad 0), .int 1] (wY cy ad st f i0 (some (b, si))) (fun u : St => wY cy ad u f i0 (some (b, si))) (fun r u => r = 1 ∧ EqX u si st) := by
  refine CtI.of (own := RX10) (nm := "restore") (lv := [(0, .ref (ad 0)), (1, .int 1)]) (plainFor_of_name (by decide)) rfl rfl (Nat.le_of_ble_eq_true rfl) rfl ?_
  intro p e s m args below meth c A Q ls B hP hD hS hl hret
  obtain ⟨hx, hb, hml, hown, hts, hK, hZ, hA, hnm⟩ := B
  have SF : CallFix p m c cX10_restore 2 s args wsL_law RX10 := ⟨hx, hb, hml, hown, hts⟩
  refine lv_iload_n hx hb dX10_restore_0 rfl (lv_at hl 1 rfl) ?_
  refine callSIr (rest := []) SF (c_X10_isImage l D cy tz _ 1 _ (isIm1 (fun r => r = 1) rfl)) (cw_RX10_269 hts ⟨Nat.le_of_ble_eq_true rfl, Nat.le_of_ble_eq_true rfl⟩) rfl rfl hK hZ hA hP hD hS rfl hl.1 rfl (Nat.le_of_ble_eq_true rfl) dX10_restore_1 ⟨Nat.zero_le _, Nat.zero_le _⟩ (fun r1 H locs h hP hD hS => ?_)
  subst h
  refine lv_if_ne (tgt := 10) hx hb dX10_restore_4 (by decide) (fun c1 => ?_) (fun c1 => ?_)
  · have hP : va_P D vwCl (wX cy ad st ++ (wJ cy ad f :: (wIm cy i0 ++ wS cy b si))) H := hP
    have hD : va_D A (wX cy ad st ++ (wJ cy ad f :: (wIm cy i0 ++ wS cy b si))) := hD
    have hv : va_rf (f (1 : Int32).toNatClampNeg) = .ref (b 3) := by rw [show (1 : Int32).toNatClampNeg = 1 from rfl, hf]; rfl
    refine lv_aload_n hx hb dX10_restore_10 rfl (lv_at hl 0 rfl) ?_
    refine va_get (D := D) (ci := 9) (v := .ref (ad 23)) (C := RX10) (T := TX10) (N := 8) hx hb hts inlX10 hown hK hP 0 rfl rfl 2 (by decide) (hts _ w_1_20) (fun _ h9 => h9) rfl dX10_restore_11 ?_
    refine lv_iload_n hx hb dX10_restore_14 rfl (lv_at hl 1 rfl) ?_
    refine va_aldq (f := f) (n := 2) hx hb hK hP 23 3 rfl rfl (vin (by decide +kernel)) dX10_restore_15 ?_
    rw [hv]
    refine lv_ifnonnull (tgt := 22) hx hb dX10_restore_16 (by decide) ?_
    refine lv_aload_n hx hb dX10_restore_22 rfl (lv_at hl 0 rfl) ?_
    refine va_get (D := D) (ci := 9) (v := .ref (ad 3)) (C := RX10) (T := TX10) (N := 8) hx hb hts inlX10 hown hK hP 0 rfl rfl 1 (by decide) (hts _ w_1_19) (fun _ h9 => h9) rfl dX10_restore_23 ?_
    refine lv_aload_n hx hb dX10_restore_26 rfl (lv_at hl 0 rfl) ?_
    refine va_get (D := D) (ci := 9) (v := .ref (ad 23)) (C := RX10) (T := TX10) (N := 8) hx hb hts inlX10 hown hK hP 0 rfl rfl 2 (by decide) (hts _ w_1_20) (fun _ h9 => h9) rfl dX10_restore_27 ?_
    refine lv_iload_n hx hb dX10_restore_30 rfl (lv_at hl 1 rfl) ?_
    refine va_aldq (f := f) (n := 2) hx hb hK hP 23 3 rfl rfl (vin (by decide +kernel)) dX10_restore_31 ?_
    rw [hv]
    have pm := (show (wX cy ad st ++ (wJ cy ad f :: (wIm cy i0 ++ wS cy b si)) : va_W).Perm ((w3 cy ad st ++ (w10 cy ad st ++ (wJ cy ad f :: wIm cy i0))) ++ (wS cy ad st ++ wS cy b si)) from pm_of (fun dc a => by simp only [wX_cut, List.count_append, List.count_cons, List.count_nil]; omega))
    have hP : va_P D vwCl ((w3 cy ad st ++ (w10 cy ad st ++ (wJ cy ad f :: wIm cy i0))) ++ wP cy (pr ad b) (mk2 st si)) H := pm_P pm hP
    have hD : va_D A ((w3 cy ad st ++ (w10 cy ad st ++ (wJ cy ad f :: wIm cy i0))) ++ wP cy (pr ad b) (mk2 st si)) := pm_D pm hD
    obtain ⟨hPw, hDw⟩ := part_r hP hD
    refine callTV (r := w3 cy ad st ++ (w10 cy ad st ++ (wJ cy ad f :: wIm cy i0))) (rest := []) SF (c_X7_become l D cy tz (pr ad b) (mk2 st si) _ (wp_bec _)) (cw_RX10_272 hts ⟨Nat.le_of_ble_eq_true rfl, Nat.le_of_ble_eq_true rfl⟩) rfl rfl (va_recv hK hPw (ci := 7) (q0 := 0) rfl rfl) hK hZ hA hP hD hS rfl hl.1 rfl (Nat.le_of_ble_eq_true rfl) dX10_restore_32 ⟨Nat.zero_le _, Nat.zero_le _⟩ (fun t H locs h hP hD hS => ?_)
    subst h
    have hP : va_P D vwCl ((w3 cy ad st ++ (w10 cy ad st ++ (wJ cy ad f :: wIm cy i0))) ++ (wS cy ad (cpS st si) ++ wS cy b si)) H := hP
    have hD : va_D A ((w3 cy ad st ++ (w10 cy ad st ++ (wJ cy ad f :: wIm cy i0))) ++ (wS cy ad (cpS st si) ++ wS cy b si)) := hD
    have pm2 := (show ((w3 cy ad st ++ (w10 cy ad st ++ (wJ cy ad f :: wIm cy i0))) ++ (wS cy ad (cpS st si) ++ wS cy b si) : va_W).Perm ((w3 cy ad st ++ (wS cy ad (cpS st si) ++ w10 cy ad st)) ++ (wJ cy ad f :: (wIm cy i0 ++ wS cy b si))) from pm_of (fun dc a => by simp only [wX_cut, List.count_append, List.count_cons, List.count_nil]; omega))
    have hP := pm_P pm2 hP
    have hD := pm_D pm2 hD
    refine lv_iconst (v := 1) hx hb dX10_restore_35 (by decide) ?_
    exact hret _ (rsX si st) _ _ _ _ rfl ⟨rfl, rfl⟩ hP hD hS dX10_restore_36
  · exact absurd c1 (by decide)
set_option maxHeartbeats 4000000 in
set_option maxRecDepth 100000 in
theorem c_X10_restore_1n (l : Launch) (D : va_G) (cy : Nat → ClassId) (tz ad : Nat → Nat) (st : St) (f : Nat → Option Nat) (i0 : Im) (hf : f 1 = none) : CtI l D cy tz yX10_restore ws_X10_restore rm_X10_restore [.ref (ad 0), .int 1] (wY cy ad st f i0 none) (fun _ : Unit => wY cy ad st f i0 none) (fun r _ => r = (-3)) := by
  refine CtI.of (own := RX10) (nm := "restore") (lv := [(0, .ref (ad 0)), (1, .int 1)]) (plainFor_of_name (by decide)) rfl rfl (Nat.le_of_ble_eq_true rfl) rfl ?_
  intro p e s m args below meth c A Q ls B hP hD hS hl hret
  obtain ⟨hx, hb, hml, hown, hts, hK, hZ, hA, hnm⟩ := B
  have SF : CallFix p m c cX10_restore 2 s args wsL_law RX10 := ⟨hx, hb, hml, hown, hts⟩
  refine lv_iload_n hx hb dX10_restore_0 rfl (lv_at hl 1 rfl) ?_
  refine callSIr (rest := []) SF (c_X10_isImage l D cy tz _ 1 _ (isIm1 (fun r => r = 1) rfl)) (cw_RX10_269 hts ⟨Nat.le_of_ble_eq_true rfl, Nat.le_of_ble_eq_true rfl⟩) rfl rfl hK hZ hA hP hD hS rfl hl.1 rfl (Nat.le_of_ble_eq_true rfl) dX10_restore_1 ⟨Nat.zero_le _, Nat.zero_le _⟩ (fun r1 H locs h hP hD hS => ?_)
  subst h
  refine lv_if_ne (tgt := 10) hx hb dX10_restore_4 (by decide) (fun c1 => ?_) (fun c1 => ?_)
  · have hP : va_P D vwCl (wX cy ad st ++ (wJ cy ad f :: (wIm cy i0 ++ []))) H := hP
    have hD : va_D A (wX cy ad st ++ (wJ cy ad f :: (wIm cy i0 ++ []))) := hD
    have hv : va_rf (f (1 : Int32).toNatClampNeg) = .null := by rw [show (1 : Int32).toNatClampNeg = 1 from rfl, hf]; rfl
    refine lv_aload_n hx hb dX10_restore_10 rfl (lv_at hl 0 rfl) ?_
    refine va_get (D := D) (ci := 9) (v := .ref (ad 23)) (C := RX10) (T := TX10) (N := 8) hx hb hts inlX10 hown hK hP 0 rfl rfl 2 (by decide) (hts _ w_1_20) (fun _ h9 => h9) rfl dX10_restore_11 ?_
    refine lv_iload_n hx hb dX10_restore_14 rfl (lv_at hl 1 rfl) ?_
    refine va_aldq (f := f) (n := 2) hx hb hK hP 23 3 rfl rfl (vin (by decide +kernel)) dX10_restore_15 ?_
    rw [hv]
    refine lv_ifnonnullN hx hb dX10_restore_16 ?_
    refine lv_bipush (v := (-3)) hx hb dX10_restore_19 (by decide) ?_
    exact hret _ () _ _ _ _ rfl rfl hP hD hS dX10_restore_21
  · exact absurd c1 (by decide)
set_option maxHeartbeats 4000000 in
set_option maxRecDepth 100000 in
theorem c_X10_image_x (l : Launch) (D : va_G) (cy : Nat → ClassId) (tz ad : Nat → Nat) (st : St) (f : Nat → Option Nat) (i0 i1 : Im) (n : Int32) (h0 : n ≠ 0) (h1 : n ≠ 1) : CtNI l D cy tz yX10_image ws_X10_image rm_X10_image [.ref (ad 0), .int n] (wY cy ad st f i0 i1) (fun _ : Unit => wY cy ad st f i0 i1) (fun r _ => r = (-2)) := by
  refine CtNI.of (own := RX10) (nm := "image") (lv := [(0, .ref (ad 0)), (1, .int n)]) (plainFor_of_name (by decide)) rfl rfl (Nat.le_of_ble_eq_true rfl) rfl ?_
  intro p e s m args below meth c A Q ls B hX hP hD hS hl hret
  obtain ⟨hx, hb, hml, hown, hts, hK, hZ, hA, hnm⟩ := B
  have SF : CallFix p m c cX10_image 2 s args wsL_law RX10 := ⟨hx, hb, hml, hown, hts⟩
  refine lv_iload_n hx hb dX10_image_0 rfl (lv_at hl 1 rfl) ?_
  refine callSIr (rest := []) SF (c_X10_isImage l D cy tz _ n _ (isImN h0 h1 (fun r => r = 0) rfl)) (cw_RX10_269 hts ⟨Nat.le_of_ble_eq_true rfl, Nat.le_of_ble_eq_true rfl⟩) rfl rfl hK hZ hA hP hD hS rfl hl.1 rfl (Nat.le_of_ble_eq_true rfl) dX10_image_1 ⟨Nat.zero_le _, Nat.zero_le _⟩ (fun r1 H locs h hP hD hS => ?_)
  subst h
  refine lv_if_ne (tgt := 10) hx hb dX10_image_4 (by decide) (fun c1 => ?_) (fun c1 => ?_)
  · exact absurd rfl c1
  · refine lv_bipush (v := (-2)) hx hb dX10_image_7 (by decide) ?_
    refine W.widen (k := rm_X10_image.cells) (n := rm_X10_image.slots) (Nat.zero_le _) (Nat.zero_le _) ?_
    exact hret _ () _ _ _ _ rfl hP hD hS dX10_image_9
set_option maxHeartbeats 4000000 in
set_option maxRecDepth 100000 in
theorem c_X10_restore_x (l : Launch) (D : va_G) (cy : Nat → ClassId) (tz ad : Nat → Nat) (st : St) (f : Nat → Option Nat) (i0 i1 : Im) (n : Int32) (h0 : n ≠ 0) (h1 : n ≠ 1) : CtI l D cy tz yX10_restore ws_X10_restore rm_X10_restore [.ref (ad 0), .int n] (wY cy ad st f i0 i1) (fun _ : Unit => wY cy ad st f i0 i1) (fun r _ => r = (-2)) := by
  refine CtI.of (own := RX10) (nm := "restore") (lv := [(0, .ref (ad 0)), (1, .int n)]) (plainFor_of_name (by decide)) rfl rfl (Nat.le_of_ble_eq_true rfl) rfl ?_
  intro p e s m args below meth c A Q ls B hP hD hS hl hret
  obtain ⟨hx, hb, hml, hown, hts, hK, hZ, hA, hnm⟩ := B
  have SF : CallFix p m c cX10_restore 2 s args wsL_law RX10 := ⟨hx, hb, hml, hown, hts⟩
  refine lv_iload_n hx hb dX10_restore_0 rfl (lv_at hl 1 rfl) ?_
  refine callSIr (rest := []) SF (c_X10_isImage l D cy tz _ n _ (isImN h0 h1 (fun r => r = 0) rfl)) (cw_RX10_269 hts ⟨Nat.le_of_ble_eq_true rfl, Nat.le_of_ble_eq_true rfl⟩) rfl rfl hK hZ hA hP hD hS rfl hl.1 rfl (Nat.le_of_ble_eq_true rfl) dX10_restore_1 ⟨Nat.zero_le _, Nat.zero_le _⟩ (fun r1 H locs h hP hD hS => ?_)
  subst h
  refine lv_if_ne (tgt := 10) hx hb dX10_restore_4 (by decide) (fun c1 => ?_) (fun c1 => ?_)
  · exact absurd rfl c1
  · refine lv_bipush (v := (-2)) hx hb dX10_restore_7 (by decide) ?_
    exact hret _ () _ _ _ _ rfl rfl hP hD hS dX10_restore_9
