theorem tXY_0 {p : Int} {w : Nat} (hw : w < 24) (hp : 0 ≤ p ∧ p ≤ 1000) : (-1000 ≤ tX p 0 w ∧ tX p 0 w ≤ 1000) ∧ (-1000 ≤ tY p 0 w ∧ tY p 0 w ≤ 1000) := by
  have h1 := mul_b (a := p) (m := 1000) (by omega) (Cn_b w hw) (by decide) (by decide)
  have h2 := mul_b (a := p) (m := 1000) (by omega) (Sn_b w hw) (by decide) (by decide)
  unfold tX tY
  rw [Int.zero_mul, Int.zero_mul, Int.sub_zero, Int.add_zero]
  exact ⟨td_b (by decide) (by omega), td_b (by decide) (by omega)⟩
theorem o_sit (st mt : St) (j0 j1 : Option St) (a1 a2 : Int32) (h : LR st j0 j1 mt) : wp_X10_sit st a1 a2 (fun r st' => wp_X11_sit mt a1 a2 (fun r' mt' => r = r' ∧ LR st' j0 j1 mt')) := by
  refine t_x (lo := 0) (hi := 1000) rfl rfl (br' (fun c => t_m (lo := 0) (hi := 1000) rfl rfl (br' (fun _ => ⟨rfl, h⟩) (fun z => absurd z c))) (fun c => ?_))
  refine k_wayXq (br (fun d => ?_) (fun d => t_m (lo := 0) (hi := 1000) rfl rfl (br' (fun z => absurd c z) (fun _ => k_wayMq (br (fun z => absurd z d) (fun _ => ⟨rfl, h⟩))))))
  have h' := h
  obtain ⟨⟨s1, s2, s3, s4, s5, s6, s7, s8, s9⟩, ⟨b1, b2, b3, b4, b5, b6, b7⟩, hr⟩ := h'
  refine ⟨fun q => ?_, fun q => t_m (lo := 0) (hi := 1000) rfl rfl (br' (fun z => absurd c z) (fun _ => k_wayMq (br (fun _ => ⟨fun z => absurd (s3 ▸ q) z, fun _ => ⟨rfl, h⟩⟩) (fun z => absurd d z))))⟩
  have q8 : (gI st 1).toInt < 8 := by
    have := (lt_of_r b2 (b := 8) rfl).resolve_right q
    exact Int32.lt_iff_toInt_lt.mp this
  obtain ⟨n, hn, en, cn⟩ := cl_of (n := 8) b2.1 b2.2
  obtain ⟨w, hw, ew, -⟩ := cl_of (n := 23) d.1 d.2
  have ha1 : a1 = iI a1.toInt := iI_of _
  have hin : vp_in (gI st 1) 8 := vp_in_iff.mpr ⟨b2.1, q8⟩
  have pre : ∀ post : Int32 → St → Prop, wp_X11_turnPoint mt a1 0 a2 (fun t9 => ∀ x10 : Int32, x10 = gI t9 1 → (vp_in (gI t9 14) 8 ∧ (∀ x12 : Int32, x12 = gI t9 2 → (vp_in (gI t9 14) 8 ∧ (∀ x14 : Int32, x14 = (gI t9 14 + 1) → (post (x14 - 1) (sI (sA (sA t9 12 (upd (gA t9 12) (gI t9 14).toNatClampNeg x10)) 13 (upd (gA t9 13) (gI t9 14).toNatClampNeg x12)) 14 x14))))))) → wp_X11_sit mt a1 a2 post := fun post H => t_m (lo := 0) (hi := 1000) rfl rfl (br' (fun z => absurd c z) (fun _ => k_wayMq (br (fun _ => ⟨fun _ => H, fun z => absurd (s3.trans z) q⟩) (fun z => absurd d z))))
  have bp : b9 a1.toInt := ⟨by omega, by omega⟩
  have b0 : b9 0 := ⟨by decide, by decide⟩
  have tb := tXY_0 (w := w) (by omega) c
  intro x1 e1
  subst e1
  refine ⟨fun z => absurd (Int32.le_iff_toInt_le.mp z) (fun z2 => ?_), fun _ => ?_⟩
  · have z3 : (8 : Int) ≤ (gI st 1).toInt := z2
    omega
  have eL : a1.toInt64 = iL a1.toInt := by
    conv => lhs; rw [ha1]
    exact iI_L ⟨by omega, by omega⟩
  rw [eL, ew, show (0 : Int64) = iL 0 from rfl]
  refine k_turnX (by omega) bp b0 (fun x6 e6 => ⟨hin, k_turnY (by omega) bp b0 (fun x10 e10 => ⟨hin, fun x12 e12 => ?_⟩)⟩)
  rw [← ew]
  refine pre _ ?_
  rw [ha1, ew, show (0 : Int32) = iI 0 from rfl]
  refine k_turnP hr.2.1 (by omega) bp b0 ?_
  have r1 := tu_1 mt a1.toInt 0 w
  have r2 := tu_2 mt a1.toInt 0 w
  have mr := tu_f mt a1.toInt 0 w
  unfold tu at r1 r2 mr
  generalize sI (sI mt 1 (iI (tX a1.toInt 0 w))) 2 (iI (tY a1.toInt 0 w)) = u at r1 r2 mr ⊢
  have hu : LR st j0 j1 u := h.fr (FR.rf _ _ _) (mr.up (by decide) (by decide))
  obtain ⟨⟨s1, s2, s3, s4, s5, s6, s7, s8, s9⟩, -, hr⟩ := hu
  intro y10 f10
  refine ⟨by rw [← s3]; exact hin, fun y12 f12 => ⟨by rw [← s3]; exact hin, fun y14 f14 => ?_⟩⟩
  rw [iL_I] at e6 e10
  rw [r1] at f10
  rw [r2] at f12
  have g6 : x6 = y10 := e6.trans f10.symm
  have g10 : x10 = y12 := e10.trans f12.symm
  have g12 : x12 = y14 := by rw [e12, f14, s3]
  have hx6 : rI (-1000) 1000 x6 := by rw [e6]; unfold rI; rw [iI_t ⟨by omega, by omega⟩]; exact tb.1
  have hx10 : rI (-1000) 1000 x10 := by rw [e10]; unfold rI; rw [iI_t ⟨by omega, by omega⟩]; exact tb.2
  refine ⟨?_, ⟨s1, s2, g12, s4, s5, s6, s7, ?_, s9⟩, ⟨b1, ?_, b3, b4, b5, ?_, b7⟩, hr⟩
  · rw [f14, ← s3]
    exact (Int32.add_sub_cancel _ _).symm
  · intro k hk
    show upd (gA st 6) (gI st 1).toNatClampNeg x6 k = upd (gA u 12) (gI u 14).toNatClampNeg y10 k ∧ upd (gA st 7) (gI st 1).toNatClampNeg x10 k = upd (gA u 13) (gI u 14).toNatClampNeg y12 k
    rw [← s3, g6, g10]
    by_cases e : k = (gI st 1).toNatClampNeg
    · rw [e, upd_s, upd_s, upd_s, upd_s]; exact ⟨rfl, rfl⟩
    · rw [upd_n _ _ e, upd_n _ _ e, upd_n _ _ e, upd_n _ _ e]; exact s8 k hk
  · show rI 0 8 x12
    rw [e12]
    refine ⟨?_, ?_⟩ <;> rw [add1_t b2.1 q8 (by decide)] <;> have := b2.1 <;> omega
  · intro k hk
    show rI (-1000) 1000 (upd (gA st 6) (gI st 1).toNatClampNeg x6 k) ∧ rI (-1000) 1000 (upd (gA st 7) (gI st 1).toNatClampNeg x10 k)
    by_cases e : k = (gI st 1).toNatClampNeg
    · rw [e, upd_s, upd_s]; exact ⟨hx6, hx10⟩
    · rw [upd_n _ _ e, upd_n _ _ e]; exact b6 k hk
