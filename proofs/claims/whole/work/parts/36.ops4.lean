theorem sub1 {x : Int32} (h : rI 0 8 x) : (x - 1).toInt = x.toInt - 1 := by
  have e : x - 1 = iI (x.toInt - 1) := by rw [← iI_sub, ← iI_of]; rfl
  rw [e, iI_t ⟨by have := h.1; omega, by have := h.2; omega⟩]
theorem k_hasX {st mt : St} {j0 j1 : Option St} (hl : LR st j0 j1 mt) {a1 : Int32} {post : Int32 → Prop} (h : post (bI (0 ≤ a1.toInt ∧ a1.toInt ≤ (gI st 1).toInt - 1))) : wp_X7_hasOne st a1 post := t_x (lo := 0) rfl (sub1 hl.2.1.2.1) ⟨bI_b, h⟩
theorem k_isM {st mt : St} {j0 j1 : Option St} (hl : LR st j0 j1 mt) {a1 : Int32} {post : Int32 → Prop} (h : post (bI (0 ≤ a1.toInt ∧ a1.toInt ≤ (gI st 1).toInt - 1))) : wp_X11_isOne mt a1 post := t_m (lo := 0) rfl (by rw [Int32.toInt_toInt64, ← hl.1.2.2.1]; exact sub1 hl.2.1.2.1) ⟨bI_b, h⟩
theorem one_k {st mt : St} {j0 j1 : Option St} (hl : LR st j0 j1 mt) {a : Int32} (h : 0 ≤ a.toInt ∧ a.toInt ≤ (gI st 1).toInt - 1) : ∃ k : Nat, k < 8 ∧ a = iI k := by
  have hb : (gI st 1).toInt ≤ 8 := hl.2.1.2.1.2
  obtain ⟨k, hk, e, -⟩ := cl_of (n := 7) h.1 (by omega)
  exact ⟨k, by omega, e⟩
theorem k_throwX {a b : Int32} {post : Int32 → Prop} (h : post (bI ((0 ≤ a.toInt ∧ a.toInt ≤ 200) ∧ (0 ≤ b.toInt ∧ b.toInt ≤ 23)))) : wp_X10_isThrow a b post := by
  refine t_x (lo := 0) (hi := 200) rfl rfl (br' (fun c => ?_) (fun c => k_wayXq (br' (fun d => ?_) (fun d => ?_))))
  · rw [show bI ((0 ≤ a.toInt ∧ a.toInt ≤ 200) ∧ (0 ≤ b.toInt ∧ b.toInt ≤ 23)) = 0 from if_neg (fun z => c z.1)] at h; exact h
  · rw [show bI ((0 ≤ a.toInt ∧ a.toInt ≤ 200) ∧ (0 ≤ b.toInt ∧ b.toInt ≤ 23)) = 0 from if_neg (fun z => d z.2)] at h; exact h
  · rw [show bI ((0 ≤ a.toInt ∧ a.toInt ≤ 200) ∧ (0 ≤ b.toInt ∧ b.toInt ≤ 23)) = 1 from if_pos ⟨c, d⟩] at h; exact h
theorem k_throwM {a b : Int32} {post : Int32 → Prop} (h : post (bI ((0 ≤ a.toInt ∧ a.toInt ≤ 200) ∧ (0 ≤ b.toInt ∧ b.toInt ≤ 23)))) : wp_X11_isThrow a b post := by
  refine t_m (lo := 0) (hi := 200) rfl rfl (br' (fun c => ?_) (fun c => k_wayMq (br' (fun d => ?_) (fun d => ?_))))
  · rw [show bI ((0 ≤ a.toInt ∧ a.toInt ≤ 200) ∧ (0 ≤ b.toInt ∧ b.toInt ≤ 23)) = 0 from if_neg (fun z => c z.1)] at h; exact h
  · rw [show bI ((0 ≤ a.toInt ∧ a.toInt ≤ 200) ∧ (0 ≤ b.toInt ∧ b.toInt ≤ 23)) = 0 from if_neg (fun z => d z.2)] at h; exact h
  · rw [show bI ((0 ≤ a.toInt ∧ a.toInt ≤ 200) ∧ (0 ≤ b.toInt ∧ b.toInt ≤ 23)) = 1 from if_pos ⟨c, d⟩] at h; exact h
theorem four {a : Int32} (h : 0 ≤ a.toInt ∧ a.toInt ≤ 3) : a = 0 ∨ a = 1 ∨ a = 2 ∨ a = 3 := by
  have e : a.toInt = 0 ∨ a.toInt = 1 ∨ a.toInt = 2 ∨ a.toInt = 3 := by omega
  rcases e with e | e | e | e
  · exact .inl (Int32.toInt_inj.mp e)
  · exact .inr (.inl (Int32.toInt_inj.mp e))
  · exact .inr (.inr (.inl (Int32.toInt_inj.mp e)))
  · exact .inr (.inr (.inr (Int32.toInt_inj.mp e)))
theorem throw_k {a b : Int32} (h : (0 ≤ a.toInt ∧ a.toInt ≤ 200) ∧ (0 ≤ b.toInt ∧ b.toInt ≤ 23)) : ∃ (p : Int) (w : Nat), (0 ≤ p ∧ p ≤ 200) ∧ w < 24 ∧ a = iI p ∧ b = iI (w : Int) := by
  obtain ⟨w, hw, e, -⟩ := cl_of (n := 23) h.2.1 h.2.2
  exact ⟨a.toInt, w, h.1, by omega, iI_of _, e⟩
/-- where a ball is -/
def bl (x g : Int) (i : Nat) : Int := x + (i : Int) * g
theorem bl_b {x g : Int} {i : Nat} (hx : -1000 ≤ x ∧ x ≤ 1000) (hg : -3400 ≤ g ∧ g ≤ 3400) (hi : i ≤ 61) : -208400 ≤ bl x g i ∧ bl x g i ≤ 208400 := by
  have := mul_b (a := (i : Int)) (m := 61) (by omega) hg (by decide) (by decide)
  unfold bl
  omega
theorem k_xB {t : St} {x y ox oy gx gy : Int} (ht : XT t x y ox oy gx gy) {i : Nat} (hi : i ≤ 61) {post : Int64 → Prop} (h : post (iL (bl x gx i))) : wp_X0_xBehind t (iI (i : Int)) post := by
  unfold wp_X0_xBehind
  rw [ht.1, ht.2.2.1, iI_L ⟨by omega, by omega⟩, iL_mul, iL_add]
  exact h
theorem k_yB {t : St} {x y ox oy gx gy : Int} (ht : XT t x y ox oy gx gy) {i : Nat} (hi : i ≤ 61) {post : Int64 → Prop} (h : post (iL (bl y gy i))) : wp_X0_yBehind t (iI (i : Int)) post := by
  unfold wp_X0_yBehind
  rw [ht.2.1, ht.2.2.2.1, iI_L ⟨by omega, by omega⟩, iL_mul, iL_add]
  exact h
theorem k_xM {u : St} {x y gx gy : Int} (hu : MT u x y gx gy) {i : Nat} {post : Int32 → Prop} (h : post (iI (bl x gx i))) : wp_X11_ballX u (iI (i : Int)) post := by
  unfold wp_X11_ballX
  rw [hu.1, hu.2.2.1, iI_mul, iI_add]
  exact h
theorem k_yM {u : St} {x y gx gy : Int} (hu : MT u x y gx gy) {i : Nat} {post : Int32 → Prop} (h : post (iI (bl y gy i))) : wp_X11_ballY u (iI (i : Int)) post := by
  unfold wp_X11_ballY
  rw [hu.2.1, hu.2.2.2, iI_mul, iI_add]
  exact h
theorem k_seeB {st mt u : St} {j0 j1 : Option St} (hl : LR st j0 j1 mt) {f : Nat → Int × Int} (hm : MR mt u f) {x y gx gy : Int} (hu : MT u x y gx gy) (hx : -1000 ≤ x ∧ x ≤ 1000) (hy : -1000 ≤ y ∧ y ≤ 1000) (hgx : -3400 ≤ gx ∧ gx ≤ 3400) (hgy : -3400 ≤ gy ∧ gy ≤ 3400) {i : Nat} (hi : i ≤ 61) {post : St → Prop} (h : post (tu u (bl x gx i) (bl y gy i) (bk (wy f i)))) : wp_X11_seeBall u (iI (i : Int)) post := by
  refine k_xM hu (k_yM hu (k_wayM hm hi ?_))
  rw [bk_e (wy_b hm.2.1 i)]
  exact k_turnP (sin_M hl hm) (bk_b _) (b9_1 (bl_b hx hgx hi) (by decide)) (b9_1 (bl_b hy hgy hi) (by decide)) h
theorem o_ball (st mt : St) (j0 j1 : Option St) (a1 a2 a3 a4 a5 : Int32) (h : LR st j0 j1 mt) : wp_X10_ball st a1 a2 a3 a4 a5 (fun r st' => wp_X11_ball mt a1 a2 a3 a4 a5 (fun r' mt' => r = r' ∧ LR st' j0 j1 mt')) := by
  refine k_hasX h (br (fun c => ?_) (fun c => k_isM h (br (fun z => absurd z c) (fun _ => ⟨rfl, h⟩))))
  refine k_throwX (br' (fun d => k_isM h (br (fun _ => k_throwM (br' (fun _ => ⟨rfl, h⟩) (fun z => absurd z d))) (fun z => absurd c z))) (fun d => ?_))
  refine k_tickX (br' (fun e => k_isM h (br (fun _ => k_throwM (br' (fun z => absurd d z) (fun _ => k_tickM (br' (fun _ => ⟨rfl, h⟩) (fun z => absurd z e))))) (fun z => absurd c z))) (fun e => ?_))
  refine t_x (lo := 0) (hi := 3) rfl rfl (br (fun g => ?_) (fun g => k_isM h (br (fun _ => k_throwM (br' (fun z => absurd d z) (fun _ => k_tickM (br' (fun z => absurd e z) (fun _ => t_m (lo := 0) (hi := 3) rfl rfl (br (fun z => absurd z g) (fun _ => ⟨rfl, h⟩))))))) (fun z => absurd c z))))
  obtain ⟨f, rx, rm⟩ := go_of h
  have pre : ∀ post : Int32 → St → Prop, (wp_X11_layTurns mt (fun t14 => wp_X11_layThrow t14 a1 a2 a3 (fun t16 => ((2 ≤ a5) → (wp_X11_seeBall t16 a4 (fun t19 => ((¬ a5 = 2) → (post (gI t19 2) t19)) ∧ ((a5 = 2) → (post (gI t19 1) t19))))) ∧ ((¬ 2 ≤ a5) → (((¬ a5 = 0) → (wp_X11_ballY t16 a4 (fun r22 => post r22 t16))) ∧ ((a5 = 0) → (wp_X11_ballX t16 a4 (fun r24 => post r24 t16)))))))) → wp_X11_ball mt a1 a2 a3 a4 a5 post := fun post H => k_isM h (br (fun _ => k_throwM (br' (fun z => absurd d z) (fun _ => k_tickM (br' (fun z => absurd e z) (fun _ => t_m (lo := 0) (hi := 3) rfl rfl (br (fun _ => H) (fun z => absurd g z))))))) (fun z => absurd c z))
  obtain ⟨k, hk, ek⟩ := one_k h c
  obtain ⟨p, w, hp, hw, ep, ew⟩ := throw_k d
  obtain ⟨i, hi, ei, -⟩ := cl_of (n := 60) e.1 e.2
  have g4 := four g
  clear c d e g
  subst ek ep ew ei
  have hin : vp_in (iI (k : Int)) 8 := iI_in (by omega) (by omega) (by decide)
  have pb := P_b h hk
  refine rx _ (fun t ht => ⟨hin, hin, k_launch h ht hk hp hw (fun t' ht' _ _ hT => ?_)⟩)
  have gb := G_b pb.1 pb.2 hp (wy_b ht.2.1 1) hw
  refine k_xB hT (by omega) (k_yB hT (by omega) (k_backX ht' hi ?_))
  have bx := b9_1 (bl_b pb.1 gb.1 (show i ≤ 61 by omega)) (by decide)
  have bY := b9_1 (bl_b pb.2 gb.2 (show i ≤ 61 by omega)) (by decide)
  have fin : ∀ {u' : St}, MR mt u' f → LR t' j0 j1 u' := fun z => h.fr ht'.1 z.1
  rcases g4 with rfl | rfl | rfl | rfl
  · refine ⟨fun z => absurd z (by decide), fun _ => ?_, fun z => absurd z (by decide), fun z => absurd z (by decide)⟩
    refine pre _ (rm _ (fun u hu => k_layThrow h hu hk hp hw (fun u' hu' _ hM => ⟨fun z => absurd z (by decide), fun _ => ⟨fun z => absurd rfl z, fun _ => k_xM hM ⟨?_, fin hu'⟩⟩⟩)))
    rw [iL_I]
  · refine ⟨fun z => absurd z (by decide), fun z => absurd z (by decide), fun _ => ?_, fun z => absurd z (by decide)⟩
    refine pre _ (rm _ (fun u hu => k_layThrow h hu hk hp hw (fun u' hu' _ hM => ⟨fun z => absurd z (by decide), fun _ => ⟨fun _ => k_yM hM ⟨?_, fin hu'⟩, fun z => absurd z (by decide)⟩⟩)))
    rw [iL_I]
  · refine ⟨fun z => absurd z (by decide), fun z => absurd z (by decide), fun z => absurd z (by decide), fun _ => k_turnX (bk_b _) bx bY ?_⟩
    refine pre _ (rm _ (fun u hu => k_layThrow h hu hk hp hw (fun u' hu' _ hM => ⟨fun _ => k_seeB h hu' hM pb.1 pb.2 gb.1 gb.2 (by omega) ⟨fun z => absurd rfl z, fun _ => ⟨?_, fin (tu_go hu')⟩⟩, fun z => absurd (by decide) z⟩)))
    rw [iL_I, tu_1]
  · refine ⟨fun _ => k_turnY (bk_b _) bx bY ?_, fun z => absurd z (by decide), fun z => absurd z (by decide), fun z => absurd z (by decide)⟩
    refine pre _ (rm _ (fun u hu => k_layThrow h hu hk hp hw (fun u' hu' _ hM => ⟨fun _ => k_seeB h hu' hM pb.1 pb.2 gb.1 gb.2 (by omega) ⟨fun _ => ⟨?_, fin (tu_go hu')⟩, fun z => absurd z (by decide)⟩, fun z => absurd (by decide) z⟩)))
    rw [iL_I, tu_2]
theorem o_point (st mt : St) (j0 j1 : Option St) (a1 a2 a3 : Int32) (h : LR st j0 j1 mt) : wp_X10_point st a1 a2 a3 (fun r st' => wp_X11_point mt a1 a2 a3 (fun r' mt' => r = r' ∧ LR st' j0 j1 mt')) := by
  refine k_hasX h (br (fun c => ?_) (fun c => k_isM h (br (fun z => absurd z c) (fun _ => ⟨rfl, h⟩))))
  refine k_tickX (br' (fun e => k_isM h (br (fun _ => k_tickM (br' (fun _ => ⟨rfl, h⟩) (fun z => absurd z e))) (fun z => absurd c z))) (fun e => ?_))
  refine t_x (lo := 0) (hi := 3) rfl rfl (br (fun g => ?_) (fun g => k_isM h (br (fun _ => k_tickM (br' (fun z => absurd e z) (fun _ => t_m (lo := 0) (hi := 3) rfl rfl (br (fun z => absurd z g) (fun _ => ⟨rfl, h⟩))))) (fun z => absurd c z))))
  obtain ⟨f, rx, rm⟩ := go_of h
  have pre : ∀ post : Int32 → St → Prop, (((2 ≤ a3) → (wp_X11_layTurns mt (fun t12 => wp_X11_layOne t12 a1 a2 (fun t14 => ((¬ a3 = 2) → (post (gI t14 2) t14)) ∧ ((a3 = 2) → (post (gI t14 1) t14)))))) ∧ ((¬ 2 ≤ a3) → (((¬ a3 = 0) → (vp_in a1 8 ∧ (post (gA mt 13 a1.toNatClampNeg) mt))) ∧ ((a3 = 0) → (vp_in a1 8 ∧ (post (gA mt 12 a1.toNatClampNeg) mt)))))) → wp_X11_point mt a1 a2 a3 post := fun post H => k_isM h (br (fun _ => k_tickM (br' (fun z => absurd e z) (fun _ => t_m (lo := 0) (hi := 3) rfl rfl (br (fun _ => H) (fun z => absurd g z))))) (fun z => absurd c z))
  obtain ⟨k, hk, ek⟩ := one_k h c
  obtain ⟨i, hi, ei, -⟩ := cl_of (n := 60) e.1 e.2
  have g4 := four g
  clear c e g
  subst ek ei
  have hin : vp_in (iI (k : Int)) 8 := iI_in (by omega) (by omega) (by decide)
  have pb := P_b h hk
  have so := h.1.2.2.2.2.2.2.2.1 k hk
  refine ⟨hin, fun x10 e10 => ⟨hin, fun x12 e12 => ?_⟩⟩
  have ck : (iI (k : Int)).toNatClampNeg = k := cl_n (show k ≤ 8 by omega) (by decide)
  rw [ck] at e10 e12 pre
  have f10 : x10 = iI (Px st k) := by rw [e10]; exact iI_of _
  have f12 : x12 = iI (Py st k) := by rw [e12]; exact iI_of _
  have bx := b9_1 pb.1 (by decide)
  have bY := b9_1 pb.2 (by decide)
  rcases g4 with rfl | rfl | rfl | rfl
  · refine ⟨fun z => absurd z (by decide), fun _ => ⟨fun z => absurd rfl z, fun _ => pre _ ⟨fun z => absurd z (by decide), fun _ => ⟨fun z => absurd rfl z, fun _ => ⟨hin, ?_, h⟩⟩⟩⟩⟩
    rw [e10]; exact so.1
  · refine ⟨fun z => absurd z (by decide), fun _ => ⟨fun _ => pre _ ⟨fun z => absurd z (by decide), fun _ => ⟨fun _ => ⟨hin, ?_, h⟩, fun z => absurd z (by decide)⟩⟩, fun z => absurd z (by decide)⟩⟩
    rw [e12]; exact so.2
  · refine ⟨fun _ => ?_, fun z => absurd (by decide) z⟩
    rw [f10, f12, iI_L ⟨by omega, by omega⟩, iI_L ⟨by omega, by omega⟩]
    refine rx _ (fun t ht => k_wayX ht hi ⟨fun z => absurd rfl z, fun _ => k_turnX (wy_b ht.2.1 i) bx bY ?_⟩)
    refine pre _ ⟨fun _ => rm _ (fun u hu => k_layOne h hu hk (by omega) ⟨fun z => absurd rfl z, fun _ => ⟨?_, h.fr ht.1 (tu_go hu).1⟩⟩), fun z => absurd (by decide) z⟩
    rw [iL_I, tu_1]
  · refine ⟨fun _ => ?_, fun z => absurd (by decide) z⟩
    rw [f10, f12, iI_L ⟨by omega, by omega⟩, iI_L ⟨by omega, by omega⟩]
    refine rx _ (fun t ht => k_wayX ht hi ⟨fun _ => k_turnY (wy_b ht.2.1 i) bx bY ?_, fun z => absurd z (by decide)⟩)
    refine pre _ ⟨fun _ => rm _ (fun u hu => k_layOne h hu hk (by omega) ⟨fun _ => ⟨?_, h.fr ht.1 (tu_go hu).1⟩, fun z => absurd z (by decide)⟩), fun z => absurd (by decide) z⟩
    rw [iL_I, tu_2]
