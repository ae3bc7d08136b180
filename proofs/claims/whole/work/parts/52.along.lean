/-! learns, along -/
theorem tc_cg {st st' : St} (h6 : gA st' 6 = gA st 6) (h7 : gA st' 7 = gA st 7) (h1 : gA st' 1 2 = gA st 1 2) (f : Nat → Int × Int) (k k' : Nat) (p : Int) : tc st' f k k' p = tc st f k k' p ∧ Nx st' f k k' p = Nx st f k k' p := by
  constructor
  · funext w
    unfold tc seX seY Px Py
    rw [h6, h7, h1]
  · funext w
    unfold Nx seX seY Px Py
    rw [h6, h7]
theorem Pz.fr {st t : St} {c : Nat} {s : Int} (h : Pz st c s) (f : FR xI xA st t) : Pz t c s := by
  unfold Pz
  rw [f.1 2 (by decide), f.2 3 (by decide), f.2 1 (by decide)]
  exact h
theorem Qz.fr {mt u : St} {c : Nat} {s : Int} (h : Qz mt c s) (f : FR mI mA mt u) : Qz u c s := by
  unfold Qz
  rw [f.1 10 (by decide), f.2 9 (by decide), f.2 3 (by decide)]
  exact h
theorem tr_X {st mt : St} {j0 j1 : Option St} (hl : LR st j0 j1 mt) {c : Nat} {s q : Int} (hx : Pz st c s) (hq : -99 ≤ q ∧ q ≤ 99) {k k' : Nat} (hk : k < 8) (hk' : k' < 8) {p : Int} (hp : 0 ≤ p ∧ p ≤ 200) {w : Nat} (hw : w < 24) {t1 : St} (f1 : FR xI xA st t1) (h8 : gI t1 8 = iI (w : Int)) {post : Int32 → St → Prop} (h1 : ∀ t', FR xI xA st t' → ∀ b : Nat × Nat, pzr (tc st (ap (gA st 2) (gA st 3) c s q) k k' p) (Nx st (ap (gA st 2) (gA st 3) c s q) k k' p) 24 w 1 = some b → gI t' 8 = iI (b.1 : Int) → gI t' 9 = iI (b.2 : Int) → post 1 t') (h0 : ∀ t', FR xI xA st t' → pzr (tc st (ap (gA st 2) (gA st 3) c s q) k k' p) (Nx st (ap (gA st 2) (gA st 3) c s q) k k' p) 24 w 1 = none → post 0 t') : wp_X10_tries t1 (iI (k : Int)) (iI p) (iI (k' : Int)) (iI q) post := by
  have hl1 : LR t1 j0 j1 mt := hl.fr f1 (FR.rf _ _ _)
  have hx1 := hx.fr f1
  have hin : vp_in (iI (k : Int)) 8 := iI_in (by omega) (by omega) (by decide)
  have hin' : vp_in (iI (k' : Int)) 8 := iI_in (by omega) (by omega) (by decide)
  have cg := tc_cg (st := st) (st' := t1) (f1.2 6 (by decide)) (f1.2 7 (by decide)) (by rw [f1.2 1 (by decide)]) (ap (gA st 2) (gA st 3) c s q) k k' p
  rw [← cg.1, ← cg.2] at h1 h0
  have fb := fun k => ap_b (pa := gA st 2) (pb := gA st 3) (c := c) hq hx.2.2.2.2.1 k
  have hb : FB (ap (gA st 2) (gA st 3) c s q) := ⟨fun k => (fb k).1, rfl⟩
  have e2 : gA t1 2 = gA st 2 := f1.2 2 (by decide)
  have e3 : gA t1 3 = gA st 3 := f1.2 3 (by decide)
  refine k_run hx1 hq (fun t ft ha => ?_)
  rw [e2, e3] at ha
  generalize ap (gA st 2) (gA st 3) c s q = f at hb ha h1 h0
  have ht : XR t1 t f := ⟨ft.up (by decide) (by decide), hb, fun k hk => (ha k hk).1⟩
  refine ⟨hin', hin', k_seat hl1 ht hk' (fun t2 ht2 f2 hB => ⟨hin, hin, k_launch hl1 ht2 hk (p := 0) (w := 0) (by decide) (by decide) (fun t3 ht3 f3 eB hT => ?_)⟩)⟩
  have hB2 : XB t3 (seX t1 f k') (seY t1 f k') := by
    unfold XB
    rw [eB]
    exact hB
  have g8 : gI t3 8 = iI (w : Int) := (f3.1 8 (fun z => nomatch z)).trans ((f2.1 8 (fun z => nomatch z)).trans ((ft.1 8 (fun z => nomatch z)).trans h8))
  refine k_reach ht3 ⟨25, ?_⟩
  exact lp_prac hl1 hb hk hk' hp 24 w 1 rfl hw t3 ⟨ht3, ⟨_, _, hT⟩, hB2⟩ g8 (fun t' a b b1 b2 b3 => ⟨rfl, h1 t' (f1.tr a.1.1) b b1 b2 b3⟩) (fun t' a b => ⟨rfl, h0 t' (f1.tr a.1.1) b⟩)
theorem tr_M {st mt : St} {j0 j1 : Option St} (hl : LR st j0 j1 mt) {c : Nat} {s q : Int} (hm : Qz mt c s) (hq : -99 ≤ q ∧ q ≤ 99) (h3 : gA mt 3 0 = iI q) {k k' : Nat} (hk : k < 8) (hk' : k' < 8) {p : Int} (hp : 0 ≤ p ∧ p ≤ 200) {w : Nat} (hw : w < 24) {post : Int32 → St → Prop} (h1 : ∀ u', FR mI mA mt u' → ∀ b : Nat × Nat, pzr (tc st (ap (gA st 2) (gA st 3) c s q) k k' p) (Nx st (ap (gA st 2) (gA st 3) c s q) k k' p) 24 w 1 = some b → gI u' 30 = iI (b.1 : Int) → post (iI (b.2 : Int)) u') (h0 : ∀ u', FR mI mA mt u' → pzr (tc st (ap (gA st 2) (gA st 3) c s q) k k' p) (Nx st (ap (gA st 2) (gA st 3) c s q) k k' p) 24 w 1 = none → post (-6) u') : wp_X11_triesFrom mt (iI (k : Int)) (iI p) (iI (k' : Int)) (iI (w : Int)) post := by
  have fb := fun k => ap_b (pa := gA st 2) (pb := gA st 3) (c := c) hq hm.2.2.2.2.1 k
  have hb : FB (ap (gA st 2) (gA st 3) c s q) := ⟨fun k => (fb k).1, rfl⟩
  have heq := hl.1.2.2.2.2.2.2.1
  refine k_lay hm hq h3 (fun u fu ha => ?_)
  have ha2 : ∀ k, k ≤ 61 → gA u 4 k = iI (ap (gA st 2) (gA st 3) c s q k).1 := fun k hk => by
    rw [ap_cg (fun k hk => heq k (by have := hm.1; omega))]
    exact (ha k hk).1
  generalize ap (gA st 2) (gA st 3) c s q = f at hb ha2 h1 h0
  have hu : MR mt u f := ⟨fu.up (by decide) (by decide), hb, ha2⟩
  obtain ⟨q0, q1⟩ := q_30 u (iI (w : Int))
  have hu1 : MR mt (sI u 30 (iI (w : Int))) f := hu.go (q0.up (by decide) (by decide))
  generalize sI u 30 (iI (w : Int)) = v at q0 q1 hu1 ⊢
  refine ⟨25, ?_⟩
  exact lp_try hl hk hk' hp 24 w 1 rfl hw v hu1 q1 (fun u' a b b1 b2 => h1 u' a.1 b b1 b2) (fun u' a b => h0 u' a.1 b)
abbrev two2 (st : St) (a b : Int32) : Prop := ((0 ≤ a.toInt ∧ a.toInt ≤ (gI st 1).toInt - 1) ∧ (0 ≤ b.toInt ∧ b.toInt ≤ (gI st 1).toInt - 1)) ∧ ¬ a = b
theorem k_twoX {st mt : St} {j0 j1 : Option St} (hl : LR st j0 j1 mt) {a b : Int32} {post : Int32 → Prop} (h : post (bI (two2 st a b))) : wp_X10_areTwo st a b post :=
  k_hasX hl (br' (fun c => bI_0 h (fun z => c z.1.1)) (fun c => k_hasX hl (br' (fun d => bI_0 h (fun z => d z.1.2)) (fun d => ⟨fun e => bI_0 h (fun z => z.2 e), fun e => bI_1 h ⟨⟨c, d⟩, e⟩⟩))))
theorem k_twoM {st mt : St} {j0 j1 : Option St} (hl : LR st j0 j1 mt) {a b : Int32} {post : Int32 → Prop} (h : post (bI (two2 st a b))) : wp_X11_areTwo mt a b post :=
  k_isM hl (br' (fun c => bI_0 h (fun z => c z.1.1)) (fun c => k_isM hl (br' (fun d => bI_0 h (fun z => d z.1.2)) (fun d => ⟨fun e => bI_0 h (fun z => z.2 e), fun e => bI_1 h ⟨⟨c, d⟩, e⟩⟩))))
/-- both first rounds of tries -/
theorem ln_core {st mt : St} {j0 j1 : Option St} (h : LR st j0 j1 mt) {k k' : Nat} (hk : k < 8) (hk' : k' < 8) {p : Int} (hp : 0 ≤ p ∧ p ≤ 200) : ∃ R : Option (Nat × Nat), (∀ b, R = some b → b.1 < 24 ∧ 1 ≤ b.2 ∧ b.2 ≤ 24) ∧ (∀ post : Int32 → St → Prop, (∀ t', FR xI xA st t' → ∀ b, R = some b → gI t' 8 = iI (b.1 : Int) → gI t' 9 = iI (b.2 : Int) → post 1 t') → (∀ t', FR xI xA st t' → R = none → post 0 t') → wp_X10_learnsAtFirst st (iI (k : Int)) (iI p) (iI (k' : Int)) post) ∧ ∀ post : Int32 → St → Prop, (∀ u', FR mI mA mt u' → ∀ b, R = some b → gI u' 30 = iI (b.1 : Int) → post (iI (b.2 : Int)) u') → (∀ u', FR mI mA mt u' → R = none → post (-6) u') → wp_X11_firstWay mt (iI (k : Int)) (iI p) (iI (k' : Int)) (fun r10 t11 => wp_X11_triesFrom t11 (iI (k : Int)) (iI p) (iI (k' : Int)) r10 post) := by
  obtain ⟨c, s, p0, hx, hm, hp1, hp2, e1, e2⟩ := setup_p h
  have hin : vp_in (iI (k : Int)) 8 := iI_in (by omega) (by omega) (by decide)
  have hin' : vp_in (iI (k' : Int)) 8 := iI_in (by omega) (by omega) (by decide)
  have a := P_b h hk
  have b := P_b h hk'
  have ab := aw_b (Px st k' - Px st k) (Py st k' - Py st k) p 23
  refine ⟨pzr (tc st (ap (gA st 2) (gA st 3) c s p0) k k' p) (Nx st (ap (gA st 2) (gA st 3) c s p0) k k' p) 24 (aw (Px st k' - Px st k) (Py st k' - Py st k) p 23) 1, fun b hb => ?_, fun post h1 h0 => ?_, fun post h1 h0 => ?_⟩
  · have := pzr_b _ _ (fun w => nxw_b _ _ _ _ _ _ w) 24 _ 1 b (by omega) hb
    omega
  · refine ⟨hin', hin, hin', hin, ?_⟩
    have o1 : gA st 6 k = iI (Px st k) := iI_of _
    have o2 : gA st 7 k = iI (Py st k) := iI_of _
    have o3 : gA st 6 k' = iI (Px st k') := iI_of _
    have o4 : gA st 7 k' = iI (Py st k') := iI_of _
    rw [cl_n (show k ≤ 8 by omega) (by decide), cl_n (show k' ≤ 8 by omega) (by decide), o1, o2, o3, o4, iI_sub, iI_sub]
    refine k_aim (by omega) (by omega) hp (fun t2 f2 h8 => ?_)
    have f2' : FR xI xA st t2 := f2.up (by decide) (by decide)
    unfold wp_X7_pace
    rw [f2.2 1 (by decide), show gA st 1 (0 : Int32).toNatClampNeg - 100 = iI p0 from e1]
    exact tr_X h hx ⟨hp1, hp2⟩ hk hk' hp (by omega) f2' h8 (fun t' x1 x2 x3 x4 x5 => ⟨rfl, h1 t' x1 x2 x3 x4 x5⟩) (fun t' x1 x2 => ⟨rfl, h0 t' x1 x2⟩)
  · refine k_fw h hk hk' hp (fun u2 fu => ?_)
    have fu' : FR mI mA mt u2 := fu.up (by decide) (by decide)
    exact tr_M (h.fr (FR.rf _ _ _) fu') (hm.fr fu') ⟨hp1, hp2⟩ (by rw [fu.2 3 (by decide)]; exact e2) hk hk' hp (by omega) (fun u' x1 x2 x3 x4 => h1 u' (fu'.tr x1) x2 x3 x4) (fun u' x1 x2 => h0 u' (fu'.tr x1) x2)
theorem o_learns (st mt : St) (j0 j1 : Option St) (a1 a2 a3 a4 : Int32) (h : LR st j0 j1 mt) : wp_X10_learns st a1 a2 a3 a4 (fun r st' => wp_X11_learns mt a1 a2 a3 a4 (fun r' mt' => r = r' ∧ LR st' j0 j1 mt')) := by
  refine k_twoX h (br (fun c => ?_) (fun c => k_twoM h (br (fun z => absurd z c) (fun _ => ⟨rfl, h⟩))))
  refine t_x (lo := 1) (hi := 200) rfl rfl (br' (fun d => k_twoM h (br (fun _ => t_m (lo := 1) (hi := 200) rfl rfl (br' (fun _ => ⟨rfl, h⟩) (fun z => absurd z d))) (fun z => absurd c z))) (fun d => ?_))
  refine t_x (lo := 0) (hi := 1) rfl rfl (br (fun e => ?_) (fun e => k_twoM h (br (fun _ => t_m (lo := 1) (hi := 200) rfl rfl (br' (fun z => absurd d z) (fun _ => k_endM (br (fun z => absurd z e) (fun _ => ⟨rfl, h⟩))))) (fun z => absurd c z))))
  have pre : ∀ post : Int32 → St → Prop, wp_X11_firstWay mt a1 a2 a3 (fun r10 t11 => wp_X11_triesFrom t11 a1 a2 a3 r10 (fun r12 t13 => ((0 ≤ r12) → (((¬ a4 = 0) → (post (gI t13 30) t13)) ∧ ((a4 = 0) → (post r12 t13)))) ∧ ((¬ 0 ≤ r12) → (post (-6) t13)))) → wp_X11_learns mt a1 a2 a3 a4 post := fun post H => k_twoM h (br (fun _ => t_m (lo := 1) (hi := 200) rfl rfl (br' (fun z => absurd d z) (fun _ => k_endM (br (fun _ => H) (fun z => absurd e z))))) (fun z => absurd c z))
  obtain ⟨k, hk, ek⟩ := one_k h c.1.1
  obtain ⟨k', hk', ek'⟩ := one_k h c.1.2
  clear c
  have ep : a2 = iI a2.toInt := iI_of _
  generalize a2.toInt = p at d ep
  subst ek ek' ep
  obtain ⟨R, hR, rx, rm⟩ := ln_core h hk hk' (p := p) (by omega)
  refine rx _ (fun t' ft b eb h8 h9 => ?_) (fun t' ft eb => ?_)
  · have hb := hR b eb
    have c0 : 0 ≤ iI (b.2 : Int) := (iI_le (a := 0) ⟨by decide, by decide⟩ ⟨by omega, by omega⟩).mpr (by omega)
    have c1 : ∀ b', R = some b' → b' = b := fun b' e' => Option.some.inj (e'.symm.trans eb)
    have cn : ¬ R = none := fun z => by rw [z] at eb; cases eb
    refine ⟨fun _ => ⟨fun z => ?_, fun z => ?_⟩, fun z => absurd z (by decide)⟩
    · refine pre _ (rm _ (fun u' fu b' eb' h30 => ?_) (fun u' fu w => absurd w cn))
      rw [c1 b' eb'] at h30 ⊢
      exact ⟨fun _ => ⟨fun _ => ⟨by rw [h8, h30], h.fr ft fu⟩, fun y => absurd y z⟩, fun y => absurd c0 y⟩
    · refine pre _ (rm _ (fun u' fu b' eb' h30 => ?_) (fun u' fu w => absurd w cn))
      rw [c1 b' eb'] at h30 ⊢
      exact ⟨fun _ => ⟨fun y => absurd z y, fun _ => ⟨h9, h.fr ft fu⟩⟩, fun y => absurd c0 y⟩
  · refine ⟨fun z => absurd rfl z, fun _ => pre _ (rm _ (fun u' fu b' eb' h30 => ?_) (fun u' fu w => ⟨fun y => absurd y (by decide), fun _ => ⟨rfl, h.fr ft fu⟩⟩))⟩
    rw [eb] at eb'
    cases eb'
theorem back3 (u : St) (x : Int32) {v : St} (hv : FR mI mA (sA u 3 (upd (gA u 3) 0 x)) v) : FR mI mA u (sA v 3 (upd (gA v 3) 0 (gA u 3 0))) := by
  have e3 : gA v 3 = upd (gA u 3) 0 x := hv.2 3 (by decide)
  refine ⟨fun k hk => hv.1 k hk, fun k hk => ?_⟩
  by_cases q : k = 3
  · subst q
    show upd (gA v 3) 0 (gA u 3 0) = gA u 3
    rw [e3]
    funext j
    by_cases w : j = 0
    · rw [w, upd_s]
    · rw [upd_n _ _ w, upd_n _ _ w]
  · have a : gA (sA v 3 (upd (gA v 3) 0 (gA u 3 0))) k = gA v k := (FR.sA (ii := []) (aa := [3]) 3 _ (by decide)).2 k (by intro z; cases z with | head => exact q rfl | tail _ z => cases z)
    have b : gA (sA u 3 (upd (gA u 3) 0 x)) k = gA u k := (FR.sA (ii := []) (aa := [3]) 3 _ (by decide)).2 k (by intro z; cases z with | head => exact q rfl | tail _ z => cases z)
    rw [a, hv.2 k hk, b]
theorem o_along (st mt : St) (j0 j1 : Option St) (a1 a2 a3 a4 : Int32) (h : LR st j0 j1 mt) : wp_X10_along st a1 a2 a3 a4 (fun r st' => wp_X11_along mt a1 a2 a3 a4 (fun r' mt' => r = r' ∧ LR st' j0 j1 mt')) := by
  refine k_twoX h (br (fun c => ?_) (fun c => k_twoM h (br (fun z => absurd z c) (fun _ => ⟨rfl, h⟩))))
  refine t_x (lo := 1) (hi := 200) rfl rfl (br' (fun d => k_twoM h (br (fun _ => t_m (lo := 1) (hi := 200) rfl rfl (br' (fun _ => ⟨rfl, h⟩) (fun z => absurd z d))) (fun z => absurd c z))) (fun d => ?_))
  refine t_x (lo := 0) (hi := 198) rfl rfl (br (fun e => ?_) (fun e => k_twoM h (br (fun _ => t_m (lo := 1) (hi := 200) rfl rfl (br' (fun z => absurd d z) (fun _ => t_m (lo := 0) (hi := 198) rfl rfl (br (fun z => absurd z e) (fun _ => ⟨rfl, h⟩))))) (fun z => absurd c z))))
  have pre : ∀ post : Int32 → St → Prop, wp_X11_firstWay mt a1 a2 a3 (fun r10 t11 => wp_X11_triesFrom t11 a1 a2 a3 r10 (fun r12 t13 => ((0 ≤ r12) → (∀ x15 : Int32, x15 = (gA t13 3 (0 : Int32).toNatClampNeg) → (∀ x17 : Int32, x17 = (a4 - 99) → (wp_X11_triesFrom (sA t13 3 (upd (gA t13 3) (0 : Int32).toNatClampNeg x17)) a1 a2 a3 (gI t13 30) (fun r19 t20 => post r19 (sA t20 3 (upd (gA t20 3) (0 : Int32).toNatClampNeg x15))))))) ∧ ((¬ 0 ≤ r12) → (post (-6) t13)))) → wp_X11_along mt a1 a2 a3 a4 post := fun post H => k_twoM h (br (fun _ => t_m (lo := 1) (hi := 200) rfl rfl (br' (fun z => absurd d z) (fun _ => t_m (lo := 0) (hi := 198) rfl rfl (br (fun _ => H) (fun z => absurd e z))))) (fun z => absurd c z))
  obtain ⟨k, hk, ek⟩ := one_k h c.1.1
  obtain ⟨k', hk', ek'⟩ := one_k h c.1.2
  clear c
  have ep : a2 = iI a2.toInt := iI_of _
  generalize a2.toInt = p at d ep
  have eq : a4 - 99 = iI (a4.toInt - 99) := by rw [← iI_sub, ← iI_of]; rfl
  have hq : -99 ≤ a4.toInt - 99 ∧ a4.toInt - 99 ≤ 99 := by omega
  generalize a4.toInt - 99 = q at eq hq
  rw [eq] at pre
  subst ek ek' ep
  obtain ⟨R, hR, rx, rm⟩ := ln_core h hk hk' (p := p) (by omega)
  obtain ⟨cc, s, p0, hx, hm, hp1, hp2, e1, e2⟩ := setup_p h
  have hp : 0 ≤ p ∧ p ≤ 200 := by omega
  refine rx _ (fun t1 ft b eb h8 h9 => ?_) (fun t' ft eb => ?_)
  · have hb := hR b eb
    have c0 : 0 ≤ iI (b.2 : Int) := (iI_le (a := 0) ⟨by decide, by decide⟩ ⟨by omega, by omega⟩).mpr (by omega)
    have c1 : ∀ b', R = some b' → b' = b := fun b' e' => Option.some.inj (e'.symm.trans eb)
    have cn : ¬ R = none := fun z => by rw [z] at eb; cases eb
    refine ⟨fun _ => ?_, fun z => absurd z (by decide)⟩
    rw [eq]
    -- the reference's second round
    have run : ∀ (t2 : St), FR xI xA st t2 → ∀ v : Int32, (∀ b2 : Nat × Nat, pzr (tc st (ap (gA st 2) (gA st 3) cc s q) k k' p) (Nx st (ap (gA st 2) (gA st 3) cc s q) k k' p) 24 b.1 1 = some b2 → v = iI (b2.2 : Int)) → (pzr (tc st (ap (gA st 2) (gA st 3) cc s q) k k' p) (Nx st (ap (gA st 2) (gA st 3) cc s q) k k' p) 24 b.1 1 = none → v = -6) → wp_X11_along mt (iI (k : Int)) (iI p) (iI (k' : Int)) a4 (fun r' mt' => v = r' ∧ LR t2 j0 j1 mt') := by
      intro t2 f2 v v1 v0
      refine pre _ (rm _ (fun u fu b' eb' h30 => ⟨fun _ x15 e15 x17 e17 => ?_, fun y => ?_⟩) (fun u' fu w => absurd w cn))
      · rw [c1 b' eb'] at h30
        rw [h30, e17, e15]
        have hs := set_LR (h.fr (FR.rf _ _ _) fu) (k := 0) (a2 := iI (q + 100)) ⟨by decide, by decide⟩ (by
          rw [iI_t ⟨by omega, by omega⟩]
          have z1 : (zL (0 : Int32).toNatClampNeg).toInt = 1 := by decide +kernel
          have z2 : (zM (0 : Int32).toNatClampNeg).toInt = 199 := by decide +kernel
          omega)
        rw [if_pos rfl, show iI (q + 100) - 100 = iI q by rw [show (100 : Int32) = iI 100 from rfl, iI_sub]; congr 1; omega] at hs
        have hz : Qz (sA u 3 (upd (gA u 3) (0 : Int32).toNatClampNeg (iI q))) cc s := by
          have z := hm.fr fu
          exact ⟨z.1, z.2.1, z.2.2.1, z.2.2.2.1, z.2.2.2.2⟩
        have cg := tc_cg (st := st) (st' := sA st 1 (upd (gA st 1) (0 : Int32).toNatClampNeg (iI (q + 100)))) rfl rfl rfl (ap (gA st 2) (gA st 3) cc s q) k k' p
        rw [← cg.1, ← cg.2] at v1 v0
        refine tr_M hs hz hq rfl hk hk' hp hb.1 (fun u2 fu2 b2 eb2 _ => ⟨v1 b2 eb2, h.fr f2 (fu.tr (back3 u (iI q) fu2))⟩) (fun u2 fu2 eb2 => ⟨v0 eb2, h.fr f2 (fu.tr (back3 u (iI q) fu2))⟩)
      · rw [c1 b' eb'] at y
        exact absurd c0 y
    refine tr_X h hx hq hk hk' hp hb.1 ft h8 (fun t2 f2 b2 eb2 g8 g9 => ?_) (fun t2 f2 eb2 => ?_)
    · exact ⟨fun z => absurd z (by decide), fun _ => run t2 f2 _ (fun b3 eb3 => by rw [g9, Option.some.inj (eb3.symm.trans eb2)]) (fun eb3 => by rw [eb3] at eb2; cases eb2)⟩
    · exact ⟨fun _ => run t2 f2 _ (fun b3 eb3 => by rw [eb3] at eb2; cases eb2) (fun _ => rfl), fun z => absurd rfl z⟩
  · refine ⟨fun z => absurd rfl z, fun _ => pre _ (rm _ (fun u' fu b' eb' h30 => ?_) (fun u' fu w => ⟨fun y => absurd y (by decide), fun _ => ⟨rfl, h.fr ft fu⟩⟩))⟩
    rw [eb] at eb'
    cases eb'
