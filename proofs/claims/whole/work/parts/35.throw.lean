/-! runs and throws -/
theorem FR.sL {ii aa : List Nat} {m : St} (k : Nat) (v : Int64) : FR ii aa m (sL m k v) := ⟨fun _ _ => rfl, fun _ _ => rfl⟩
theorem FR.sB {ii aa : List Nat} {m : St} (k : Nat) (v : Nat → Int64) : FR ii aa m (sB m k v) := ⟨fun _ _ => rfl, fun _ _ => rfl⟩
def FB (f : Nat → Int × Int) : Prop := (∀ k, 0 ≤ (f k).1 ∧ (f k).1 < 240) ∧ (f 0).1 = 0
def XR (st t : St) (f : Nat → Int × Int) : Prop := FR xI xA st t ∧ FB f ∧ ∀ k, k ≤ 60 → gA t 8 k = iI (f k).1
def MR (mt u : St) (f : Nat → Int × Int) : Prop := FR mI mA mt u ∧ FB f ∧ ∀ k, k ≤ 61 → gA u 4 k = iI (f k).1
theorem XR.go {st t t' : St} {f : Nat → Int × Int} (h : XR st t f) (h2 : FR xI [10] t t') : XR st t' f := ⟨h.1.tr (h2.up (fun _ z => z) (by decide)), h.2.1, fun k hk => by rw [h2.2 8 (by decide)]; exact h.2.2 k hk⟩
theorem MR.go {mt u u' : St} {f : Nat → Int × Int} (h : MR mt u f) (h2 : FR mI [19, 20, 21, 28, 29] u u') : MR mt u' f := ⟨h.1.tr (h2.up (fun _ z => z) (by decide)), h.2.1, fun k hk => by rw [h2.2 4 (by decide)]; exact h.2.2 k hk⟩
theorem go_of {st mt : St} {j0 j1 : Option St} (h : LR st j0 j1 mt) : ∃ f : Nat → Int × Int, (∀ post : St → Prop, (∀ t, XR st t f → post t) → wp_X7_pace st (fun r => wp_X5_run st r (fun t => post t))) ∧ ∀ post : St → Prop, (∀ u, MR mt u f → post u) → wp_X11_layTurns mt (fun t => post t) := by
  obtain ⟨cn, s, p0, hx, hm, hp1, hp2, e1, e2⟩ := setup_p h
  obtain ⟨f, rx, rm, fb, f0⟩ := run_of hx hm ⟨hp1, hp2⟩ h.1.2.2.2.2.2.2.1
  have hb : FB f := ⟨fun k => (fb k).1, f0⟩
  refine ⟨f, fun post hp => ?_, fun post hp => ?_⟩
  · unfold wp_X7_pace
    rw [show gA st 1 (0 : Int32).toNatClampNeg - 100 = iI p0 from e1]
    exact rx _ (fun t ht => hp t ⟨ht.1.up (by decide) (by decide), hb, fun k hk => (ht.2 k hk).1⟩)
  · exact rm e2 _ (fun u hu => hp u ⟨hu.1.up (by decide) (by decide), hb, fun k hk => (hu.2 k hk).1⟩)
theorem wy_b {f : Nat → Int × Int} (h : FB f) (k : Nat) : wy f k < 24 := by
  have := h.1 k
  unfold wy
  omega
theorem wy_0 {f : Nat → Int × Int} (h : FB f) : wy f 0 = 0 := by
  have := h.2
  unfold wy
  omega
theorem wy_e {f : Nat → Int × Int} (h : FB f) (k : Nat) : iI (f k).1 / 10 = iI (wy f k : Int) := by
  have := h.1 k
  rw [show (10 : Int32) = iI 10 from rfl, iI_div ⟨by omega, by omega⟩ ⟨by decide, by decide⟩ (by decide), Int.tdiv_eq_ediv_of_nonneg this.1]
  unfold wy
  rw [Int.toNat_of_nonneg (by omega)]
theorem cl_n {k n : Nat} (h : k ≤ n) (hn : n ≤ 1000000) : (iI (k : Int)).toNatClampNeg = k := by rw [iI_cl (by omega) (by omega)]; omega
theorem k_wayX {st t : St} {f : Nat → Int × Int} (hx : XR st t f) {k : Nat} (hk : k ≤ 60) {post : Int32 → Prop} (h : post (iI (wy f k : Int))) : wp_X5_wayBehind t (iI (k : Int)) post := by
  have hb := hx.2.1.1 k
  refine ⟨iI_in (by omega) (by omega) (by decide), ?_⟩
  rw [cl_n hk (by decide), hx.2.2 k hk]
  refine k_fm (n := 240) ⟨by omega, by omega⟩ (Or.inr rfl) ?_
  rw [Int.emod_eq_of_lt hb.1 hb.2, wy_e hx.2.1]
  exact h
theorem k_wayM {mt u : St} {f : Nat → Int × Int} (hm : MR mt u f) {k : Nat} (hk : k ≤ 61) {post : Int32 → Prop} (h : post (iI (wy f k : Int))) : wp_X11_wayAt u (iI (k : Int)) post := by
  refine ⟨iI_in (by omega) (by omega) (by decide), ?_⟩
  rw [cl_n hk (by decide), hm.2.2 k hk, wy_e hm.2.1]
  exact h
def bk (w : Nat) : Nat := (24 - w) % 24
theorem bk_b (w : Nat) : bk w < 24 := Nat.mod_lt _ (by decide)
theorem bk_e {w : Nat} (h : w < 24) : (24 - iI (w : Int)) - (24 - iI (w : Int)) / 24 * 24 = iI (bk w : Int) := by
  rw [show (24 : Int32) - iI (w : Int) = iI (24 - (w : Int)) from iI_sub 24 _]
  rw [show (24 : Int32) = iI 24 from rfl, rem_i (by omega) ⟨by omega, by omega⟩ (by decide) ⟨by decide, by decide⟩]
  unfold bk
  congr 1
  omega
theorem k_backX {st t : St} {f : Nat → Int × Int} (hx : XR st t f) {k : Nat} (hk : k ≤ 60) {post : Int32 → Prop} (h : post (iI (bk (wy f k) : Int))) : wp_X5_wayBack t (iI (k : Int)) post := by
  refine k_wayX hx hk ?_
  rw [bk_e (wy_b hx.2.1 k)]
  exact h
def Px (st : St) (k : Nat) : Int := (gA st 6 k).toInt
def Py (st : St) (k : Nat) : Int := (gA st 7 k).toInt
theorem one_X {st t : St} {f : Nat → Int × Int} (hx : XR st t f) (k : Nat) : gA t 6 k = iI (Px st k) ∧ gA t 7 k = iI (Py st k) := by
  rw [hx.1.2 6 (by decide), hx.1.2 7 (by decide)]
  exact ⟨iI_of _, iI_of _⟩
theorem one_M {st mt u : St} {j0 j1 : Option St} (h : LR st j0 j1 mt) {f : Nat → Int × Int} (hm : MR mt u f) {k : Nat} (hk : k < 8) : gA u 12 k = iI (Px st k) ∧ gA u 13 k = iI (Py st k) := by
  have := h.1.2.2.2.2.2.2.2.1 k hk
  rw [hm.1.2 12 (by decide), hm.1.2 13 (by decide), ← this.1, ← this.2]
  exact ⟨iI_of _, iI_of _⟩
theorem P_b {st mt : St} {j0 j1 : Option St} (h : LR st j0 j1 mt) {k : Nat} (hk : k < 8) : (-1000 ≤ Px st k ∧ Px st k ≤ 1000) ∧ (-1000 ≤ Py st k ∧ Py st k ≤ 1000) := h.2.1.2.2.2.2.2.1 k hk
theorem sin_M {st mt u : St} {j0 j1 : Option St} (h : LR st j0 j1 mt) {f : Nat → Int × Int} (hm : MR mt u f) : ∀ k, k < 24 → gA u 0 k = zS k := by
  rw [hm.1.2 0 (by decide)]
  exact h.2.2.2.1
theorem b9_1 {z n : Int} (h : -n ≤ z ∧ z ≤ n) (hn : n ≤ 1000000000) : b9 z := ⟨by omega, by omega⟩
def tu (u : St) (x y : Int) (w : Nat) : St := sI (sI u 1 (iI (tX x y w))) 2 (iI (tY x y w))
theorem tu_go {mt u : St} {f : Nat → Int × Int} (hm : MR mt u f) {x y : Int} {w : Nat} : MR mt (tu u x y w) f := hm.go ((FR.sI 1 _ (by decide)).tr (FR.sI 2 _ (by decide)))
theorem k_layOne {st mt u : St} {j0 j1 : Option St} (h : LR st j0 j1 mt) {f : Nat → Int × Int} (hm : MR mt u f) {k i : Nat} (hk : k < 8) (hi : i ≤ 61) {post : St → Prop} (hp : post (tu u (Px st k) (Py st k) (wy f i))) : wp_X11_layOne u (iI (k : Int)) (iI (i : Int)) post := by
  have hin : vp_in (iI (k : Int)) 8 := iI_in (by omega) (by omega) (by decide)
  refine ⟨hin, hin, k_wayM hm hi ?_⟩
  rw [cl_n (show k ≤ 8 by omega) (by decide), (one_M h hm hk).1, (one_M h hm hk).2]
  exact k_turnP (sin_M h hm) (wy_b hm.2.1 i) (b9_1 (P_b h hk).1 (by decide)) (b9_1 (P_b h hk).2 (by decide)) hp
/-- the step of a throw -/
def Gx (x y : Int) (w1 : Nat) (p : Int) (w : Nat) : Int := tX p 0 w + (tX x y w1 - x)
def Gy (x y : Int) (w1 : Nat) (p : Int) (w : Nat) : Int := tY p 0 w + (tY x y w1 - y)
theorem G_b {x y p : Int} {w1 w : Nat} (hx : -1000 ≤ x ∧ x ≤ 1000) (hy : -1000 ≤ y ∧ y ≤ 1000) (hp : 0 ≤ p ∧ p ≤ 200) (h1 : w1 < 24) (hw : w < 24) : (-3400 ≤ Gx x y w1 p w ∧ Gx x y w1 p w ≤ 3400) ∧ (-3400 ≤ Gy x y w1 p w ∧ Gy x y w1 p w ≤ 3400) := by
  have a := tXY_b h1 (b := 1000) (by decide) hx hy
  have b := tXY_b hw (b := 200) (x := p) (y := 0) (by decide) (by omega) (by omega)
  unfold Gx Gy
  omega
theorem t0 {x y : Int} : tX x y 0 = x ∧ tY x y 0 = y := by
  have s : Sn 0 = 0 := by decide +kernel
  have c : Cn 0 = 10000 := by decide +kernel
  unfold tX tY
  rw [s, c]
  constructor
  · rw [Int.mul_zero, Int.sub_zero, Int.mul_tdiv_cancel _ (by decide)]
  · rw [Int.mul_zero, Int.zero_add, Int.mul_tdiv_cancel _ (by decide)]
/-- the class's ball -/
def XT (t : St) (x y ox oy gx gy : Int) : Prop := gL t 0 = iL x ∧ gL t 1 = iL y ∧ gL t 2 = iL gx ∧ gL t 3 = iL gy ∧ gL t 4 = iL ox ∧ gL t 5 = iL oy
def MT (u : St) (x y gx gy : Int) : Prop := gI u 15 = iI x ∧ gI u 16 = iI y ∧ gI u 17 = iI gx ∧ gI u 18 = iI gy
theorem k_anew {st t : St} {f : Nat → Int × Int} (hx : XR st t f) {x y ox oy gx gy p : Int} {w : Nat} (ht : XT t x y ox oy gx gy) (hp : 0 ≤ p ∧ p ≤ 200) (hw : w < 24) {post : St → Prop} (h : ∀ t', XR st t' f → FR [] [] t t' → gB t' = gB t → XT t' x y ox oy (tX p 0 w + ox) (tY p 0 w + oy) → post t') : wp_X0_throwAnew t (iI p) (iI (w : Int)) post := by
  unfold wp_X0_throwAnew
  rw [iI_L ⟨by omega, by omega⟩, show (0 : Int64) = iL 0 from rfl]
  have b0 : b9 0 := ⟨by decide, by decide⟩
  have bp : b9 p := ⟨by omega, by omega⟩
  refine k_turnX hw bp b0 (fun x3 e3 => k_turnY hw bp b0 (fun x7 e7 => ?_))
  rw [ht.2.2.2.2.1, iL_add] at e3
  rw [ht.2.2.2.2.2, iL_add] at e7
  refine h _ (hx.go ((FR.sL 2 _).tr (FR.sL 3 _))) ((FR.sL 2 _).tr (FR.sL 3 _)) rfl ⟨ht.1, ht.2.1, e3, e7, ht.2.2.2.2.1, ht.2.2.2.2.2⟩
theorem k_launch {st mt t : St} {j0 j1 : Option St} (hl : LR st j0 j1 mt) {f : Nat → Int × Int} (hx : XR st t f) {k : Nat} (hk : k < 8) {p : Int} {w : Nat} (hp : 0 ≤ p ∧ p ≤ 200) (hw : w < 24) {post : St → Prop} (h : ∀ t', XR st t' f → FR [] [] t t' → gB t' = gB t → XT t' (Px st k) (Py st k) (tX (Px st k) (Py st k) (wy f 1) - Px st k) (tY (Px st k) (Py st k) (wy f 1) - Py st k) (Gx (Px st k) (Py st k) (wy f 1) p w) (Gy (Px st k) (Py st k) (wy f 1) p w) → post t') : wp_X0_launch t (gA t 6 (iI (k : Int)).toNatClampNeg) (gA t 7 (iI (k : Int)).toNatClampNeg) (iI p) (iI (w : Int)) post := by
  have hb := P_b hl hk
  have bx : b9 (Px st k) := b9_1 hb.1 (by decide)
  have bY : b9 (Py st k) := b9_1 hb.2 (by decide)
  rw [cl_n (show k ≤ 8 by omega) (by decide), (one_X hx k).1, (one_X hx k).2]
  refine k_wayX hx (k := 1) (by decide) (fun x3 e3 x5 e5 => ?_)
  rw [iI_L ⟨by omega, by omega⟩] at e3 e5
  rw [e3, e5]
  refine k_turnX (wy_b hx.2.1 1) bx bY (fun x9 e9 => k_turnY (wy_b hx.2.1 1) bx bY (fun x13 e13 => ?_))
  rw [iL_sub] at e9 e13
  refine k_anew (t := sL (sL (sL (sL t 0 (iL (Px st k))) 1 (iL (Py st k))) 4 x9) 5 x13) (hx.go ((((FR.sL 0 _).tr (FR.sL 1 _)).tr (FR.sL 4 _)).tr (FR.sL 5 _))) (gx := (gL t 2).toInt) (gy := (gL t 3).toInt) ⟨rfl, rfl, iL_of _, iL_of _, e9, e13⟩ hp hw (fun t' h1 h2 h3 h4 => h t' h1 ((((((FR.sL 0 _).tr (FR.sL 1 _)).tr (FR.sL 4 _)).tr (FR.sL 5 _))).tr h2) h3 h4)
theorem si_1 (u : St) (a b : Int32) : gI (sI (sI u 1 a) 2 b) 1 = a := rfl
theorem si_2 (u : St) (a b : Int32) : gI (sI (sI u 1 a) 2 b) 2 = b := rfl
theorem tu_1 (u : St) (x y : Int) (w : Nat) : gI (tu u x y w) 1 = iI (tX x y w) := by unfold tu; exact si_1 _ _ _
theorem tu_2 (u : St) (x y : Int) (w : Nat) : gI (tu u x y w) 2 = iI (tY x y w) := by unfold tu; exact si_2 _ _ _
theorem tu_f (u : St) (x y : Int) (w : Nat) : FR [1, 2] [] u (tu u x y w) := by unfold tu; exact (FR.sI 1 _ (by decide)).tr (FR.sI 2 _ (by decide))
theorem q_15 (u : St) (a b : Int32) : FR [15, 16] [] u (sI (sI u 15 a) 16 b) ∧ gI (sI (sI u 15 a) 16 b) 15 = a ∧ gI (sI (sI u 15 a) 16 b) 16 = b := ⟨(FR.sI 15 _ (by decide)).tr (FR.sI 16 _ (by decide)), rfl, rfl⟩
theorem q_17 (u : St) (a b : Int32) : FR [17, 18] [] u (sI (sI u 17 a) 18 b) ∧ gI (sI (sI u 17 a) 18 b) 17 = a ∧ gI (sI (sI u 17 a) 18 b) 18 = b := ⟨(FR.sI 17 _ (by decide)).tr (FR.sI 18 _ (by decide)), rfl, rfl⟩
abbrev mT : List Nat := [1, 2, 15, 16, 17, 18]
theorem k_layThrow {st mt u : St} {j0 j1 : Option St} (hl : LR st j0 j1 mt) {f : Nat → Int × Int} (hm : MR mt u f) {k : Nat} (hk : k < 8) {p : Int} {w : Nat} (hp : 0 ≤ p ∧ p ≤ 200) (hw : w < 24) {post : St → Prop} (h : ∀ u', MR mt u' f → FR mT [] u u' → MT u' (Px st k) (Py st k) (Gx (Px st k) (Py st k) (wy f 1) p w) (Gy (Px st k) (Py st k) (wy f 1) p w) → post u') : wp_X11_layThrow u (iI (k : Int)) (iI p) (iI (w : Int)) post := by
  have hup : ∀ {v : St}, FR mT [] u v → MR mt v f := fun z => hm.go (z.up (by decide) (by decide))
  refine k_layOne hl hm hk (i := 0) (by decide) ?_
  generalize hv : tu u (Px st k) (Py st k) (wy f 0) = v
  have v1 : gI v 1 = iI (Px st k) := by rw [← hv, tu_1, wy_0 hm.2.1, t0.1]
  have v2 : gI v 2 = iI (Py st k) := by rw [← hv, tu_2, wy_0 hm.2.1, t0.2]
  have mv : FR mT [] u v := by rw [← hv]; exact (tu_f _ _ _ _).up (by decide) (by decide)
  clear hv
  intro x3 e3 x5 e5
  rw [v1] at e3
  rw [v2] at e5
  obtain ⟨m1, g15, g16⟩ := q_15 v x3 x5
  have mv1 := mv.tr (m1.up (ii' := mT) (aa' := []) (by decide) (by decide))
  clear m1
  generalize sI (sI v 15 x3) 16 x5 = u1 at mv1 g15 g16 ⊢
  rw [e3] at g15
  rw [e5] at g16
  refine k_layOne hl (hup mv1) hk (i := 1) (by decide) ?_
  generalize hw1 : tu u1 (Px st k) (Py st k) (wy f 1) = v'
  have w1 : gI v' 1 = iI (tX (Px st k) (Py st k) (wy f 1)) := by rw [← hw1]; exact tu_1 _ _ _ _
  have w2 : gI v' 2 = iI (tY (Px st k) (Py st k) (wy f 1)) := by rw [← hw1]; exact tu_2 _ _ _ _
  have mw : FR [1, 2] [] u1 v' := by rw [← hw1]; exact tu_f _ _ _ _
  clear hw1
  intro x9 e9 x11 e11
  have w15 := (mw.1 15 (by decide)).trans g15
  have w16 := (mw.1 16 (by decide)).trans g16
  rw [w1, w15, iI_sub] at e9
  rw [w2, w16, iI_sub] at e11
  obtain ⟨m2, g17, g18⟩ := q_17 v' x9 x11
  have mv2 := mv1.tr ((mw.up (ii' := mT) (aa' := []) (by decide) (by decide)).tr (m2.up (ii' := mT) (aa' := []) (by decide) (by decide)))
  have y15 := (m2.1 15 (by decide)).trans w15
  have y16 := (m2.1 16 (by decide)).trans w16
  clear m2
  generalize sI (sI v' 17 x9) 18 x11 = u2 at mv2 g17 g18 y15 y16 ⊢
  rw [e9] at g17
  rw [e11] at g18
  rw [show (0 : Int32) = iI 0 from rfl]
  refine k_turnP (sin_M hl (hup mv2)) hw ⟨by omega, by omega⟩ ⟨by decide, by decide⟩ ?_
  have r1 := tu_1 u2 p 0 w
  have r2 := tu_2 u2 p 0 w
  have mr := tu_f u2 p 0 w
  unfold tu at r1 r2 mr
  generalize sI (sI u2 1 (iI (tX p 0 w))) 2 (iI (tY p 0 w)) = u3 at r1 r2 mr ⊢
  intro x15 e15 x17 e17
  rw [r1, (mr.1 17 (by decide)).trans g17, iI_add] at e15
  rw [r2, (mr.1 18 (by decide)).trans g18, iI_add] at e17
  obtain ⟨m3, k17, k18⟩ := q_17 u3 x15 x17
  have mv3 := mv2.tr ((mr.up (ii' := mT) (aa' := []) (by decide) (by decide)).tr (m3.up (ii' := mT) (aa' := []) (by decide) (by decide)))
  refine h _ (hup mv3) mv3 ⟨(m3.1 15 (by decide)).trans ((mr.1 15 (by decide)).trans y15), (m3.1 16 (by decide)).trans ((mr.1 16 (by decide)).trans y16), k17.trans (e15.trans ?_), k18.trans (e17.trans ?_)⟩
  · unfold Gx
    rw [Int.add_comm]
  · unfold Gy
    rw [Int.add_comm]
