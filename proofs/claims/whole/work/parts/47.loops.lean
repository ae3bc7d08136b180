/-! loops -/
def inn (vx vy : Nat → Int) (i : Nat) : Nat → Nat → Bool
  | 0, _ => false
  | n + 1, j => decide (XMi vx vy i j) || inn vx vy i n (j + 1)
def otr (vx vy : Nat → Int) : Nat → Nat → Bool
  | 0, _ => false
  | n + 1, i => inn vx vy i (20 - (i + 2)) (i + 2) || otr vx vy n (i + 1)
theorem lp_cI {t : St} {vx vy : Nat → Int} (ht : XV t vx vy) (hv : VB vx vy) {i : Nat} (hi : i ≤ 19) {post : Int32 → Prop} {K : Prop} : ∀ (n j : Nat), n = 20 - j → j ≤ 21 → (inn vx vy i n j = true → post 1) → (inn vx vy i n j = false → K) → wp_X8_crossesItself_L12 post K t (iI (i : Int)) (n + 1) (iI (j : Int)) := by
  intro n
  induction n with
  | zero =>
    intro j hj h21 h1 h0
    have c1 : (20 : Int32) ≤ iI (j : Int) := (iI_le (a := 20) ⟨by decide, by decide⟩ ⟨by omega, by omega⟩).mpr (by omega)
    exact ⟨fun _ => h0 rfl, fun z => absurd c1 z⟩
  | succ n ih =>
    intro j hj h21 h1 h0
    have c1 : ¬ (20 : Int32) ≤ iI (j : Int) := fun z => by
      have := (iI_le (a := 20) ⟨by decide, by decide⟩ ⟨by omega, by omega⟩).mp z
      omega
    have e1 : iI (j : Int) + 1 = iI ((j + 1 : Nat) : Int) := iI_add _ 1
    refine ⟨fun z => absurd z c1, fun _ => k_lines ht hv hi (by omega) (fun q => ?_) (fun q => ?_)⟩
    · refine ⟨fun z => absurd z (by decide), fun _ => h1 ?_⟩
      show (decide (XMi vx vy i j) || inn vx vy i n (j + 1)) = true
      rw [decide_eq_true q, Bool.true_or]
    · refine ⟨fun _ x12 e12 => ?_, fun z => absurd rfl z⟩
      have e : inn vx vy i (n + 1) j = inn vx vy i n (j + 1) := by
        show (decide (XMi vx vy i j) || inn vx vy i n (j + 1)) = _
        rw [decide_eq_false q, Bool.false_or]
      rw [e] at h1 h0
      rw [e12, e1]
      exact ih (j + 1) (by omega) (by omega) h1 h0
theorem lp_c {t : St} {vx vy : Nat → Int} (ht : XV t vx vy) (hv : VB vx vy) {post : Int32 → Prop} {K : Prop} : ∀ (n i : Nat), i + n = 20 → (otr vx vy n i = true → post 1) → (otr vx vy n i = false → K) → wp_X8_crossesItself_L2 post K t (n + 1) (iI (i : Int)) := by
  intro n
  induction n with
  | zero =>
    intro i hi h1 h0
    rw [show i = 20 by omega]
    exact ⟨fun _ => h0 rfl, fun z => absurd (by decide) z⟩
  | succ n ih =>
    intro i hi h1 h0
    have c1 : ¬ (20 : Int32) ≤ iI (i : Int) := fun z => by
      have := (iI_le (a := 20) ⟨by decide, by decide⟩ ⟨by omega, by omega⟩).mp z
      omega
    have e1 : iI (i : Int) + 1 = iI ((i + 1 : Nat) : Int) := iI_add _ 1
    have e2 : iI (i : Int) + 2 = iI ((i + 2 : Nat) : Int) := iI_add _ 2
    have eo : otr vx vy (n + 1) i = (inn vx vy i (20 - (i + 2)) (i + 2) || otr vx vy n (i + 1)) := rfl
    rw [eo] at h1 h0
    refine ⟨fun z => absurd z c1, fun _ x4 e4 => ⟨20 - (i + 2) + 1, ?_⟩⟩
    rw [e4, e2]
    refine lp_cI ht hv (by omega) (20 - (i + 2)) (i + 2) rfl (by omega) (fun q => h1 (by rw [q, Bool.true_or])) (fun q x15 e15 => ?_)
    rw [q, Bool.false_or] at h1 h0
    rw [e15, e1]
    exact ih (i + 1) (by omega) h1 h0
theorem k_cross {t : St} {vx vy : Nat → Int} (ht : XV t vx vy) (hv : VB vx vy) {post : Int32 → Prop} (h1 : otr vx vy 20 0 = true → post 1) (h0 : otr vx vy 20 0 = false → post 0) : wp_X8_crossesItself t post := ⟨21, lp_c ht hv 20 0 rfl h1 h0⟩
def bO (b : Bool) : Int32 := if b = true then 1 else 0
theorem lp_mI {u : St} {vx vy : Nat → Int} (hu : MV u vx vy) (hv : VB vx vy) {i : Nat} (hi : i ≤ 19) {post : Int32 → St → Prop} {K : Int32 → Prop} : ∀ (n j : Nat) (b : Bool), n = 20 - j → j ≤ 21 → K (bO (b || inn vx vy i n j)) → wp_X11_loops_L95 post K u (iI (i : Int)) (n + 1) (bO b) (iI (j : Int)) := by
  intro n
  induction n with
  | zero =>
    intro j b hj h21 h
    have c1 : (20 : Int32) ≤ iI (j : Int) := (iI_le (a := 20) ⟨by decide, by decide⟩ ⟨by omega, by omega⟩).mpr (by omega)
    have e : (b || inn vx vy i 0 j) = b := Bool.or_false b
    rw [e] at h
    exact ⟨fun _ => h, fun z => absurd c1 z⟩
  | succ n ih =>
    intro j b hj h21 h
    have c1 : ¬ (20 : Int32) ≤ iI (j : Int) := fun z => by
      have := (iI_le (a := 20) ⟨by decide, by decide⟩ ⟨by omega, by omega⟩).mp z
      omega
    have e1 : iI (j : Int) + 1 = iI ((j + 1 : Nat) : Int) := iI_add _ 1
    have ei : inn vx vy i (n + 1) j = (decide (XMi vx vy i j) || inn vx vy i n (j + 1)) := rfl
    rw [ei] at h
    refine ⟨fun z => absurd z c1, fun _ => ?_⟩
    cases b with
    | true =>
      rw [Bool.true_or] at h
      refine ⟨fun _ x34 e34 => ?_, fun z => absurd z (by decide)⟩
      rw [e34, e1]
      exact ih (j + 1) true (by omega) (by omega) (by rw [Bool.true_or]; exact h)
    | false =>
      rw [Bool.false_or] at h
      refine ⟨fun z => absurd rfl z, fun _ => k_meet hu hv hi (by omega) (fun q => ⟨fun z => absurd z (by decide), fun _ x41 e41 => ?_⟩) (fun q => ⟨fun _ x39 e39 => ?_, fun z => absurd rfl z⟩)⟩
      · rw [decide_eq_true q, Bool.true_or] at h
        rw [e41, e1]
        exact ih (j + 1) true (by omega) (by omega) (by rw [Bool.true_or]; exact h)
      · rw [decide_eq_false q, Bool.false_or] at h
        rw [e39, e1]
        exact ih (j + 1) false (by omega) (by omega) (by rw [Bool.false_or]; exact h)
theorem lp_mo {u : St} {vx vy : Nat → Int} (hu : MV u vx vy) (hv : VB vx vy) {post : Int32 → St → Prop} {K : Int32 → Prop} : ∀ (n i : Nat) (b : Bool), i + n = 20 → K (bO (b || otr vx vy n i)) → wp_X11_loops_L82 post K u (n + 1) (bO b) (iI (i : Int)) := by
  intro n
  induction n with
  | zero =>
    intro i b hi h
    have e : (b || otr vx vy 0 i) = b := Bool.or_false b
    rw [e] at h
    rw [show i = 20 by omega]
    exact ⟨fun _ => h, fun z => absurd (by decide) z⟩
  | succ n ih =>
    intro i b hi h
    have c1 : ¬ (20 : Int32) ≤ iI (i : Int) := fun z => by
      have := (iI_le (a := 20) ⟨by decide, by decide⟩ ⟨by omega, by omega⟩).mp z
      omega
    have e1 : iI (i : Int) + 1 = iI ((i + 1 : Nat) : Int) := iI_add _ 1
    have e2 : iI (i : Int) + 2 = iI ((i + 2 : Nat) : Int) := iI_add _ 2
    have eo : otr vx vy (n + 1) i = (inn vx vy i (20 - (i + 2)) (i + 2) || otr vx vy n (i + 1)) := rfl
    rw [eo, ← Bool.or_assoc] at h
    refine ⟨fun z => absurd z c1, fun _ x27 e27 => ⟨20 - (i + 2) + 1, ?_⟩⟩
    rw [e27, e2]
    refine lp_mI hu hv (by omega) (20 - (i + 2)) (i + 2) b rfl (by omega) (fun x45 e45 => ?_)
    rw [e45, e1]
    exact ih (i + 1) _ (by omega) h
/-- what is seen of a ball -/
def vX (x y gx gy : Int) (f : Nat → Int × Int) (i : Nat) : Int := tX (bl x gx i) (bl y gy i) (bk (wy f i))
def vY (x y gx gy : Int) (f : Nat → Int × Int) (i : Nat) : Int := tY (bl x gx i) (bl y gy i) (bk (wy f i))
theorem v_b {x y gx gy : Int} (hx : -1000 ≤ x ∧ x ≤ 1000) (hy : -1000 ≤ y ∧ y ≤ 1000) (hgx : -3400 ≤ gx ∧ gx ≤ 3400) (hgy : -3400 ≤ gy ∧ gy ≤ 3400) (f : Nat → Int × Int) : VB (vX x y gx gy f) (vY x y gx gy f) := by
  intro k hk
  have a := bl_b hx hgx (show k ≤ 61 by omega)
  have b := bl_b hy hgy (show k ≤ 61 by omega)
  have c := tXY_b (bk_b (wy f k)) (b := 208400) (by decide) a b
  unfold vX vY
  omega
theorem lp_seen {st : St} {f : Nat → Int × Int} {x y ox oy gx gy : Int} (hx : -1000 ≤ x ∧ x ≤ 1000) (hy : -1000 ≤ y ∧ y ≤ 1000) (hgx : -3400 ≤ gx ∧ gx ≤ 3400) (hgy : -3400 ≤ gy ∧ gy ≤ 3400) {post : St → Prop} : ∀ (n i : Nat), i + n = 21 → ∀ t, XR st t f → XT t x y ox oy gx gy → (∀ k, k < i → gB t 0 k = iL (vX x y gx gy f k) ∧ gB t 1 k = iL (vY x y gx gy f k)) → (∀ t', XR st t' f → XV t' (vX x y gx gy f) (vY x y gx gy f) → post t') → wp_X8_followSeen_L2 post (fun t20 => post t20) (n + 1) t (iI (i : Int)) := by
  intro n
  induction n with
  | zero =>
    intro i hi t ht hT hb h
    rw [show i = 21 by omega]
    exact ⟨fun _ => h t ht (fun k hk => hb k (by omega)), fun z => absurd (by decide) z⟩
  | succ n ih =>
    intro i hi t ht hT hb h
    have c1 : ¬ (20 : Int32) < iI (i : Int) := by
      intro q
      have := (iI_lt (a := 20) ⟨by decide, by decide⟩ ⟨by omega, by omega⟩).mp q
      omega
    have e1 : iI (i : Int) + 1 = iI ((i + 1 : Nat) : Int) := iI_add _ 1
    have hin : vp_in (iI (i : Int)) 61 := iI_in (by omega) (by omega) (by decide)
    have bx := b9_1 (bl_b hx hgx (show i ≤ 61 by omega)) (by decide)
    have bY := b9_1 (bl_b hy hgy (show i ≤ 61 by omega)) (by decide)
    refine ⟨fun z => absurd z c1, fun _ => k_backX ht (by omega) (k_xB hT (by omega) (k_yB hT (by omega) (k_turnX (bk_b _) bx bY ⟨hin, ?_⟩)))⟩
    have hT1 : XT (sB t 0 (vp_updL (gB t 0) (iI (i : Int)).toNatClampNeg (iL (tX (bl x gx i) (bl y gy i) (bk (wy f i)))))) x y ox oy gx gy := hT
    refine k_xB hT1 (by omega) (k_yB hT1 (by omega) (k_turnY (bk_b _) bx bY ⟨hin, fun x18 e18 => ?_⟩))
    rw [e18, e1, cl_n (show i ≤ 61 by omega) (by decide)]
    refine ih (i + 1) (by omega) _ (ht.go ((FR.sB 0 _).tr (FR.sB 1 _))) hT (fun k hk => ?_) h
    show vp_updL (gB t 0) i (iL (tX (bl x gx i) (bl y gy i) (bk (wy f i)))) k = _ ∧ vp_updL (gB t 1) i (iL (tY (bl x gx i) (bl y gy i) (bk (wy f i)))) k = _
    by_cases e : k = i
    · rw [e, pk_uLs, pk_uLs]; exact ⟨rfl, rfl⟩
    · rw [pk_uLn e, pk_uLn e]; exact hb k (by omega)
theorem MT.fr2 {u u' : St} {x y gx gy : Int} (h : MT u x y gx gy) (h2 : FR [1, 2] [20, 21] u u') : MT u' x y gx gy := by
  unfold MT
  rw [h2.1 15 (by decide), h2.1 16 (by decide), h2.1 17 (by decide), h2.1 18 (by decide)]
  exact h
theorem q_20 (u : St) (i : Nat) (a b : Int32) : FR [] [20, 21] u (sA (sA u 20 (upd (gA u 20) i a)) 21 (upd (gA u 21) i b)) ∧ gA (sA (sA u 20 (upd (gA u 20) i a)) 21 (upd (gA u 21) i b)) 20 = upd (gA u 20) i a ∧ gA (sA (sA u 20 (upd (gA u 20) i a)) 21 (upd (gA u 21) i b)) 21 = upd (gA u 21) i b := ⟨(FR.sA 20 _ (by decide)).tr (FR.sA 21 _ (by decide)), rfl, rfl⟩
theorem lp_seenM {st mt : St} {j0 j1 : Option St} (hl : LR st j0 j1 mt) {f : Nat → Int × Int} {x y gx gy : Int} (hx : -1000 ≤ x ∧ x ≤ 1000) (hy : -1000 ≤ y ∧ y ≤ 1000) (hgx : -3400 ≤ gx ∧ gx ≤ 3400) (hgy : -3400 ≤ gy ∧ gy ≤ 3400) {post : Int32 → St → Prop} {K : St → Prop} : ∀ (n i : Nat), i + n = 21 → ∀ u, MR mt u f → MT u x y gx gy → (∀ k, k < i → gA u 20 k = iI (vX x y gx gy f k) ∧ gA u 21 k = iI (vY x y gx gy f k)) → (∀ u', MR mt u' f → MV u' (vX x y gx gy f) (vY x y gx gy f) → K u') → wp_X11_loops_L35 post K (n + 1) u (iI (i : Int)) := by
  intro n
  induction n with
  | zero =>
    intro i hi u hm hu hb h
    rw [show i = 21 by omega]
    exact ⟨fun _ => h u hm (fun k hk => hb k (by omega)), fun z => absurd (by decide) z⟩
  | succ n ih =>
    intro i hi u hm hu hb h
    have c1 : ¬ (20 : Int32) < iI (i : Int) := by
      intro q
      have := (iI_lt (a := 20) ⟨by decide, by decide⟩ ⟨by omega, by omega⟩).mp q
      omega
    have e1 : iI (i : Int) + 1 = iI ((i + 1 : Nat) : Int) := iI_add _ 1
    have hin : vp_in (iI (i : Int)) 21 := iI_in (by omega) (by omega) (by decide)
    refine ⟨fun z => absurd z c1, fun _ => k_seeB hl hm hu hx hy hgx hgy (by omega) ?_⟩
    have r1 := tu_1 u (bl x gx i) (bl y gy i) (bk (wy f i))
    have r2 := tu_2 u (bl x gx i) (bl y gy i) (bk (wy f i))
    have rf := tu_f u (bl x gx i) (bl y gy i) (bk (wy f i))
    generalize tu u (bl x gx i) (bl y gy i) (bk (wy f i)) = v at r1 r2 rf ⊢
    intro x16 e16
    refine ⟨hin, fun x18 e18 => ⟨hin, fun x20 e20 => ?_⟩⟩
    rw [e20, e1, cl_n (show i ≤ 61 by omega) (by decide), e16, e18, r1, r2]
    obtain ⟨q0, q1, q2⟩ := q_20 v i (iI (tX (bl x gx i) (bl y gy i) (bk (wy f i)))) (iI (tY (bl x gx i) (bl y gy i) (bk (wy f i))))
    generalize sA (sA v 20 (upd (gA v 20) i (iI (tX (bl x gx i) (bl y gy i) (bk (wy f i)))))) 21 (upd (gA v 21) i (iI (tY (bl x gx i) (bl y gy i) (bk (wy f i))))) = v' at q0 q1 q2 ⊢
    have fr : FR [1, 2] [20, 21] u v' := (rf.up (by decide) (by decide)).tr (q0.up (by decide) (by decide))
    refine ih (i + 1) (by omega) v' (hm.go (fr.up (by decide) (by decide))) (hu.fr2 fr) (fun k hk => ?_) h
    rw [q1, q2, rf.2 20 (by decide), rf.2 21 (by decide)]
    by_cases e : k = i
    · rw [e, upd_s, upd_s]; exact ⟨rfl, rfl⟩
    · rw [upd_n _ _ e, upd_n _ _ e]; exact hb k (by omega)
theorem o_loops (st mt : St) (j0 j1 : Option St) (a1 a2 a3 : Int32) (h : LR st j0 j1 mt) : wp_X10_loops st a1 a2 a3 (fun r st' => wp_X11_loops mt a1 a2 a3 (fun r' mt' => r = r' ∧ LR st' j0 j1 mt')) := by
  refine k_hasX h (br (fun c => ?_) (fun c => k_isM h (br (fun z => absurd z c) (fun _ => ⟨rfl, h⟩))))
  refine k_throwX (br (fun d => ?_) (fun d => k_isM h (br (fun _ => k_throwM (br (fun z => absurd z d) (fun _ => ⟨rfl, h⟩))) (fun z => absurd c z))))
  obtain ⟨f, rx, rm⟩ := go_of h
  have pre : ∀ post : Int32 → St → Prop, wp_X11_layTurns mt (fun t8 => wp_X11_layThrow t8 a1 a2 a3 (fun t10 => ∃ m35 : Nat, wp_X11_loops_L35 post (fun t22 => ∃ m82 : Nat, wp_X11_loops_L82 post (fun v47 => ((v47 = 0) → (post 0 t22)) ∧ ((¬ v47 = 0) → (post 1 t22))) t22 m82 0 0) m35 t10 0)) → wp_X11_loops mt a1 a2 a3 post := fun post H => k_isM h (br (fun _ => k_throwM (br (fun _ => H) (fun z => absurd d z))) (fun z => absurd c z))
  obtain ⟨k, hk, ek⟩ := one_k h c
  obtain ⟨p, w, hp, hw, ep, ew⟩ := throw_k d
  clear c d
  subst ek ep ew
  have hin : vp_in (iI (k : Int)) 8 := iI_in (by omega) (by omega) (by decide)
  have pb := P_b h hk
  refine rx _ (fun t ht => ⟨hin, hin, k_launch h ht hk hp hw (fun t' ht' _ _ hT => ?_)⟩)
  have gb := G_b pb.1 pb.2 hp (wy_b ht.2.1 1) hw
  have vb := v_b pb.1 pb.2 gb.1 gb.2 f
  refine ⟨22, lp_seen pb.1 pb.2 gb.1 gb.2 21 0 rfl t' ht' hT (fun _ z => absurd z (Nat.not_lt_zero _)) (fun t2 ht2 hV => ?_)⟩
  have run : ∀ post : Int32 → St → Prop, (∀ u, MR mt u f → ((bO (otr (vX (Px st k) (Py st k) (Gx (Px st k) (Py st k) (wy f 1) p w) (Gy (Px st k) (Py st k) (wy f 1) p w) f) (vY (Px st k) (Py st k) (Gx (Px st k) (Py st k) (wy f 1) p w) (Gy (Px st k) (Py st k) (wy f 1) p w) f) 20 0) = 0) → (post 0 u)) ∧ ((¬ bO (otr (vX (Px st k) (Py st k) (Gx (Px st k) (Py st k) (wy f 1) p w) (Gy (Px st k) (Py st k) (wy f 1) p w) f) (vY (Px st k) (Py st k) (Gx (Px st k) (Py st k) (wy f 1) p w) (Gy (Px st k) (Py st k) (wy f 1) p w) f) 20 0) = 0) → (post 1 u))) → wp_X11_loops mt (iI (k : Int)) (iI p) (iI (w : Int)) post := by
    intro post H
    refine pre post (rm _ (fun u hu => k_layThrow h hu hk hp hw (fun u' hu' _ hM => ⟨22, lp_seenM h pb.1 pb.2 gb.1 gb.2 21 0 rfl u' hu' hM (fun _ z => absurd z (Nat.not_lt_zero _)) (fun u2 hu2 hV2 => ⟨21, lp_mo hV2 vb 20 0 false rfl ?_⟩)⟩)))
    rw [Bool.false_or]
    exact H u2 hu2
  generalize hg : otr (vX (Px st k) (Py st k) (Gx (Px st k) (Py st k) (wy f 1) p w) (Gy (Px st k) (Py st k) (wy f 1) p w) f) (vY (Px st k) (Py st k) (Gx (Px st k) (Py st k) (wy f 1) p w) (Gy (Px st k) (Py st k) (wy f 1) p w) f) 20 0 = b at run
  refine k_cross hV vb (fun q => ?_) (fun q => ?_)
  · rw [hg] at q
    subst q
    exact ⟨fun z => absurd z (by decide), fun _ => run _ (fun u hu => ⟨fun z => absurd z (by decide), fun _ => ⟨rfl, h.fr ht2.1 hu.1⟩⟩)⟩
  · rw [hg] at q
    subst q
    exact ⟨fun _ => run _ (fun u hu => ⟨fun _ => ⟨rfl, h.fr ht2.1 hu.1⟩, fun z => absurd rfl z⟩), fun z => absurd rfl z⟩
