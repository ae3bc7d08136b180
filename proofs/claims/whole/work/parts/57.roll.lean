/-! rolled, off -/
theorem k_launchP {st t : St} {f : Nat → Int × Int} (hx : XR st t f) {x y p : Int} {w : Nat} (bx : b9 x) (bY : b9 y) (hp : 0 ≤ p ∧ p ≤ 200) (hw : w < 24) {post : St → Prop} (h : ∀ t', XR st t' f → XT t' x y (tX x y (wy f 1) - x) (tY x y (wy f 1) - y) (Gx x y (wy f 1) p w) (Gy x y (wy f 1) p w) → post t') : wp_X0_launch t (iI x) (iI y) (iI p) (iI (w : Int)) post := by
  have eL : ∀ z : Int, b9 z → (iI z).toInt64 = iL z := fun z hz => iI_L ⟨by have := hz.1; omega, by have := hz.2; omega⟩
  refine k_wayX hx (k := 1) (by decide) (fun x3 e3 x5 e5 => ?_)
  rw [eL x bx] at e3
  rw [eL y bY] at e5
  rw [e3, e5]
  refine k_turnX (wy_b hx.2.1 1) bx bY (fun x9 e9 => k_turnY (wy_b hx.2.1 1) bx bY (fun x13 e13 => ?_))
  rw [iL_sub] at e9 e13
  refine k_anew (t := sL (sL (sL (sL t 0 (iL x)) 1 (iL y)) 4 x9) 5 x13) (hx.go ((((FR.sL 0 _).tr (FR.sL 1 _)).tr (FR.sL 4 _)).tr (FR.sL 5 _))) (gx := (gL t 2).toInt) (gy := (gL t 3).toInt) ⟨rfl, rfl, iL_of _, iL_of _, e9, e13⟩ hp hw (fun t' h1 h2 h3 h4 => h t' h1 h4)
theorem s_b9 {x y T T2 : Int} (hx : b5 x) (hy : b5 y) (h : T * T + T2 * T2 ≤ x * x + y * y) : b9 T ∧ b9 T2 := by
  have a := sq_le (a := x) (b := 500000000) (by have := hx.1; have := hx.2; omega)
  have b := sq_le (a := y) (b := 500000000) (by have := hy.1; have := hy.2; omega)
  have c := sq_nn T
  have d := sq_nn T2
  have k1 := sq_abs (a := T) (L := 1000000000) (by decide) (by omega)
  have k2 := sq_abs (a := T2) (L := 1000000000) (by decide) (by omega)
  exact ⟨k1, k2⟩
theorem b59 {z : Int} (h : b5 z) : b9 z := ⟨by have := h.1; omega, by have := h.2; omega⟩
theorem q_L (t : St) (a b c d : Int64) : gL (sL (sL (sL (sL t 2 a) 3 b) 0 c) 1 d) 0 = c ∧ gL (sL (sL (sL (sL t 2 a) 3 b) 0 c) 1 d) 1 = d ∧ gL (sL (sL (sL (sL t 2 a) 3 b) 0 c) 1 d) 2 = a ∧ gL (sL (sL (sL (sL t 2 a) 3 b) 0 c) 1 d) 3 = b ∧ gL (sL (sL (sL (sL t 2 a) 3 b) 0 c) 1 d) 4 = gL t 4 ∧ gL (sL (sL (sL (sL t 2 a) 3 b) 0 c) 1 d) 5 = gL t 5 := ⟨rfl, rfl, rfl, rfl, rfl, rfl⟩
theorem nG_L {n g T F : Int} (hn : 0 ≤ n ∧ n ≤ 100) (hg : b9 g) (hT : b9 T) (hF : b9 F) : iL g + (((iL T - iL F) - iL g) * iL n) / 100 = iL (nG n g T F) := by
  have m := mul_b (a := T - F - g) (b := n) (m := 3000000000) (n := 100) (by have := hT.1; have := hT.2; have := hF.1; have := hF.2; have := hg.1; have := hg.2; omega) (by omega) (by decide) (by decide)
  rw [iL_sub, iL_sub, iL_mul, show (100 : Int64) = iL 100 from rfl, iL_div ⟨by omega, by omega⟩ ⟨by decide, by decide⟩ (by decide), iL_add]
  rfl
theorem k_rollX {st t : St} {f : Nat → Int × Int} (ht : XR st t f) {s : Int × Int × Int × Int} {ox oy : Int} (hT : XT t s.1 s.2.1 ox oy s.2.2.1 s.2.2.2) (hB : B4 s) {n : Int} (hn : 0 ≤ n ∧ n ≤ 100) {i : Nat} (hi : i ≤ 59) {post : St → Prop} (h : ∀ t', XR st t' f → XT t' (rnx n (wy f i) (wy f (i + 1)) s).1 (rnx n (wy f i) (wy f (i + 1)) s).2.1 ox oy (rnx n (wy f i) (wy f (i + 1)) s).2.2.1 (rnx n (wy f i) (wy f (i + 1)) s).2.2.2 → post t') : wp_X0_rollOn t (iI (i : Int)) (iI n) post := by
  obtain ⟨x, y, g, k⟩ := s
  have e1 : iI (i : Int) + 1 = iI ((i + 1 : Nat) : Int) := iI_add _ 1
  have bx : b9 x := b59 hB.1
  have bY : b9 y := b59 hB.2.1
  have bg : b9 g := b59 hB.2.2.1
  have bk' : b9 k := b59 hB.2.2.2
  have hS := s_b9 hB.1 hB.2.1 (t_len (x := x) (y := y) (bk_b (wy f i)))
  have hTb := s_b9 hB.1 hB.2.1 (rT_len (x := x) (y := y) (w := wy f i) (wy_b ht.2.1 (i + 1)))
  have hFb := s_b9 hB.1 hB.2.1 (rT_len (x := x) (y := y) (w := wy f i) (wy_b ht.2.1 i))
  obtain ⟨t0', t1', t2', t3', t4', t5'⟩ := hT
  have t0 : gL t 0 = iL x := t0'
  have t1 : gL t 1 = iL y := t1'
  have t2 : gL t 2 = iL g := t2'
  have t3 : gL t 3 = iL k := t3'
  refine k_backX ht (by omega) ?_
  rw [t0, t1, t2, t3, iI_L ⟨by omega, by omega⟩, e1]
  refine k_turnX (bk_b _) bx bY (k_turnY (bk_b _) bx bY (k_wayX ht (by omega) (k_wayX ht (by omega) ?_)))
  refine k_turnX (wy_b ht.2.1 (i + 1)) hS.1 hS.2 (k_turnX (wy_b ht.2.1 i) hS.1 hS.2 (fun x15 e15 => ?_))
  refine k_turnY (wy_b ht.2.1 (i + 1)) hS.1 hS.2 (k_turnY (wy_b ht.2.1 i) hS.1 hS.2 (fun x21 e21 x23 e23 x25 e25 x27 e27 x29 e29 => ?_))
  have d23 : x23 = iL (nG n g (rT1 x y (wy f i) (wy f (i + 1))) (rT1 x y (wy f i) (wy f i))) := by
    rw [e23, e15]
    exact nG_L hn bg hTb.1 hFb.1
  have d25 : x25 = iL (nG n k (rT2 x y (wy f i) (wy f (i + 1))) (rT2 x y (wy f i) (wy f i))) := by
    rw [e25, e21]
    exact nG_L hn bk' hTb.2 hFb.2
  rw [d23, iL_add] at e27
  rw [d25, iL_add] at e29
  have q := q_L t x23 x25 x27 x29
  have hx' : XR st (sL (sL (sL (sL t 2 x23) 3 x25) 0 x27) 1 x29) f := ht.go ((((FR.sL 2 _).tr (FR.sL 3 _)).tr (FR.sL 0 _)).tr (FR.sL 1 _))
  generalize sL (sL (sL (sL t 2 x23) 3 x25) 0 x27) 1 x29 = t' at q hx' ⊢
  exact h t' hx' ⟨q.1.trans e27, q.2.1.trans e29, q.2.2.1.trans d23, q.2.2.2.1.trans d25, q.2.2.2.2.1.trans t4', q.2.2.2.2.2.trans t5'⟩
/-- the reference's ball -/
def ML (u : St) (s : Int × Int × Int × Int) (i : Nat) : Prop := gI u 22 = iI s.1 ∧ gI u 23 = iI s.2.1 ∧ gI u 17 = iI s.2.2.1 ∧ gI u 18 = iI s.2.2.2 ∧ gI u 24 = iI (i : Int)
theorem q_22 (u : St) (a b : Int32) : FR [22, 23] [] u (sI (sI u 22 a) 23 b) ∧ gI (sI (sI u 22 a) 23 b) 22 = a ∧ gI (sI (sI u 22 a) 23 b) 23 = b := ⟨(FR.sI 22 _ (by decide)).tr (FR.sI 23 _ (by decide)), rfl, rfl⟩
theorem q_ro (u : St) (a b c d e : Int32) : FR [17, 18, 22, 23, 24] [] u (sI (sI (sI (sI (sI u 17 a) 18 b) 22 c) 23 d) 24 e) ∧ gI (sI (sI (sI (sI (sI u 17 a) 18 b) 22 c) 23 d) 24 e) 17 = a ∧ gI (sI (sI (sI (sI (sI u 17 a) 18 b) 22 c) 23 d) 24 e) 18 = b ∧ gI (sI (sI (sI (sI (sI u 17 a) 18 b) 22 c) 23 d) 24 e) 22 = c ∧ gI (sI (sI (sI (sI (sI u 17 a) 18 b) 22 c) 23 d) 24 e) 23 = d ∧ gI (sI (sI (sI (sI (sI u 17 a) 18 b) 22 c) 23 d) 24 e) 24 = e := ⟨((((FR.sI 17 _ (by decide)).tr (FR.sI 18 _ (by decide))).tr (FR.sI 22 _ (by decide))).tr (FR.sI 23 _ (by decide))).tr (FR.sI 24 _ (by decide)), rfl, rfl, rfl, rfl, rfl⟩
theorem q_be (u : St) (a b e : Int32) : FR [17, 18, 24] [] u (sI (sI (sI u 17 a) 18 b) 24 e) ∧ gI (sI (sI (sI u 17 a) 18 b) 24 e) 17 = a ∧ gI (sI (sI (sI u 17 a) 18 b) 24 e) 18 = b ∧ gI (sI (sI (sI u 17 a) 18 b) 24 e) 24 = e := ⟨((FR.sI 17 _ (by decide)).tr (FR.sI 18 _ (by decide))).tr (FR.sI 24 _ (by decide)), rfl, rfl, rfl⟩
theorem nG_I {n g T F : Int} (hD : -2147483647 ≤ (T - F - g) * n ∧ (T - F - g) * n ≤ 2147483647) : iI g + (((iI T - iI F) - iI g) * iI n) / 100 = iI (nG n g T F) := by
  rw [iI_sub, iI_sub, iI_mul, show (100 : Int32) = iI 100 from rfl, iI_div ⟨by omega, by omega⟩ ⟨by decide, by decide⟩ (by decide), iI_add]
  rfl
theorem k_rollM {st mt u : St} {j0 j1 : Option St} (hl : LR st j0 j1 mt) {f : Nat → Int × Int} (hm : MR mt u f) {s : Int × Int × Int × Int} {i : Nat} (hM : ML u s i) (hB : B4 s) {n : Int} (hn : gA mt 3 3 = iI n) (hi : i ≤ 59) (hR : ROK n (wy f i) (wy f (i + 1)) s) {post : St → Prop} (h : ∀ u', MR mt u' f → ML u' (rnx n (wy f i) (wy f (i + 1)) s) (i + 1) → post u') : wp_X11_roll u post := by
  obtain ⟨x, y, g, k⟩ := s
  obtain ⟨m22', m23', m17', m18', m24⟩ := hM
  have m22 : gI u 22 = iI x := m22'
  have m23 : gI u 23 = iI y := m23'
  have m17 : gI u 17 = iI g := m17'
  have m18 : gI u 18 = iI k := m18'
  have e1 : iI (i : Int) + 1 = iI ((i + 1 : Nat) : Int) := iI_add _ 1
  have bx : b9 x := b59 hB.1
  have bY : b9 y := b59 hB.2.1
  have hS := s_b9 hB.1 hB.2.1 (t_len (x := x) (y := y) (bk_b (wy f i)))
  unfold wp_X11_roll
  rw [m24, m22, m23]
  refine k_wayM hm (by omega) ?_
  rw [bk_e (wy_b hm.2.1 i)]
  refine k_turnP (sin_M hl hm) (bk_b _) bx bY ?_
  have r1 := tu_1 u x y (bk (wy f i))
  have r2 := tu_2 u x y (bk (wy f i))
  have rf := tu_f u x y (bk (wy f i))
  have rm := tu_go hm (x := x) (y := y) (w := bk (wy f i))
  unfold tu at r1 r2 rf rm
  generalize sI (sI u 1 (iI (tX x y (bk (wy f i))))) 2 (iI (tY x y (bk (wy f i)))) = v1 at r1 r2 rf rm ⊢
  intro x5 e5 x7 e7
  rw [r1] at e5
  rw [r2] at e7
  rw [e5, e7, rf.1 24 (by decide), m24]
  refine k_wayM rm (by omega) ?_
  refine k_turnP (sin_M hl rm) (wy_b hm.2.1 i) hS.1 hS.2 ?_
  have a1 := tu_1 v1 (tX x y (bk (wy f i))) (tY x y (bk (wy f i))) (wy f i)
  have a2 := tu_2 v1 (tX x y (bk (wy f i))) (tY x y (bk (wy f i))) (wy f i)
  have af := tu_f v1 (tX x y (bk (wy f i))) (tY x y (bk (wy f i))) (wy f i)
  have am := tu_go rm (x := tX x y (bk (wy f i))) (y := tY x y (bk (wy f i))) (w := wy f i)
  unfold tu at a1 a2 af am
  generalize sI (sI v1 1 (iI (tX (tX x y (bk (wy f i))) (tY x y (bk (wy f i))) (wy f i)))) 2 (iI (tY (tX x y (bk (wy f i))) (tY x y (bk (wy f i))) (wy f i))) = v2 at a1 a2 af am ⊢
  intro x13 e13 x15 e15
  rw [a1] at e13
  rw [a2] at e15
  rw [af.1 24 (by decide), rf.1 24 (by decide), m24, e1]
  refine k_wayM am (by omega) ?_
  refine k_turnP (sin_M hl am) (wy_b hm.2.1 (i + 1)) hS.1 hS.2 ?_
  have c1 := tu_1 v2 (tX x y (bk (wy f i))) (tY x y (bk (wy f i))) (wy f (i + 1))
  have c2 := tu_2 v2 (tX x y (bk (wy f i))) (tY x y (bk (wy f i))) (wy f (i + 1))
  have cf := tu_f v2 (tX x y (bk (wy f i))) (tY x y (bk (wy f i))) (wy f (i + 1))
  have cm := tu_go am (x := tX x y (bk (wy f i))) (y := tY x y (bk (wy f i))) (w := wy f (i + 1))
  unfold tu at c1 c2 cf cm
  generalize sI (sI v2 1 (iI (tX (tX x y (bk (wy f i))) (tY x y (bk (wy f i))) (wy f (i + 1))))) 2 (iI (tY (tX x y (bk (wy f i))) (tY x y (bk (wy f i))) (wy f (i + 1)))) = v3 at c1 c2 cf cm ⊢
  have fr : FR [1, 2] [] u v3 := rf.tr (af.tr cf)
  have g17 : gI v3 17 = iI g := (fr.1 17 (by decide)).trans m17
  have g18 : gI v3 18 = iI k := (fr.1 18 (by decide)).trans m18
  have g22 : gI v3 22 = iI x := (fr.1 22 (by decide)).trans m22
  have g23 : gI v3 23 = iI y := (fr.1 23 (by decide)).trans m23
  have g24 : gI v3 24 = iI (i : Int) := (fr.1 24 (by decide)).trans m24
  have gn : gA v3 3 (3 : Int32).toNatClampNeg = iI n := by
    show gA v3 3 3 = iI n
    rw [cm.1.2 3 (by decide)]
    exact hn
  rw [g17, g18, g22, g23, g24, gn, e13, e15, c1, c2, e1]
  intro x21 e21 x23 e23 x25 e25 x27 e27 x29 e29
  have d21 : x21 = iI (nG n g (rT1 x y (wy f i) (wy f (i + 1))) (rT1 x y (wy f i) (wy f i))) := by
    rw [e21]
    exact nG_I hR.1
  have d23 : x23 = iI (nG n k (rT2 x y (wy f i) (wy f (i + 1))) (rT2 x y (wy f i) (wy f i))) := by
    rw [e23]
    exact nG_I hR.2
  rw [d21, iI_add] at e25
  rw [d23, iI_add] at e27
  have q := q_ro v3 x21 x23 x25 x27 x29
  have hm' : MR mt (sI (sI (sI (sI (sI v3 17 x21) 18 x23) 22 x25) 23 x27) 24 x29) f := cm.go (q.1.up (by decide) (by decide))
  generalize sI (sI (sI (sI (sI v3 17 x21) 18 x23) 22 x25) 23 x27) 24 x29 = u' at q hm' ⊢
  exact h u' hm' ⟨q.2.2.2.1.trans e25, q.2.2.2.2.1.trans e27, q.2.1.trans d21, q.2.2.1.trans d23, q.2.2.2.2.2.trans e29⟩
theorem k_begin {st mt : St} {j0 j1 : Option St} (hl : LR st j0 j1 mt) {f : Nat → Int × Int} (rm : ∀ post : St → Prop, (∀ u, MR mt u f → post u) → wp_X11_layTurns mt (fun t => post t)) {x y p : Int} {w : Nat} (hx : -1000 ≤ x ∧ x ≤ 1000) (hy : -1000 ≤ y ∧ y ≤ 1000) (hp : 0 ≤ p ∧ p ≤ 200) (hw : w < 24) {post : St → Prop} (h : ∀ u', MR mt u' f → ML u' (x, y, Gx x y (wy f 1) p w, Gy x y (wy f 1) p w) 0 → post u') : wp_X11_beginRoll mt (iI x) (iI y) (iI p) (iI (w : Int)) post := by
  have bx : b9 x := ⟨by omega, by omega⟩
  have bY : b9 y := ⟨by omega, by omega⟩
  refine rm _ (fun u hm => ?_)
  refine k_wayM hm (k := 0) (by decide) ?_
  refine k_turnP (sin_M hl hm) (wy_b hm.2.1 0) bx bY ?_
  have r1 := tu_1 u x y (wy f 0)
  have r2 := tu_2 u x y (wy f 0)
  have ra := tu_go hm (x := x) (y := y) (w := wy f 0)
  rw [wy_0 hm.2.1] at r1 r2 ra
  rw [t0.1] at r1
  rw [t0.2] at r2
  rw [wy_0 hm.2.1]
  unfold tu at r1 r2 ra
  generalize sI (sI u 1 (iI (tX x y 0))) 2 (iI (tY x y 0)) = v at r1 r2 ra ⊢
  intro x7 e7 x9 e9
  rw [r1] at e7
  rw [r2] at e9
  obtain ⟨q0, q1, q2⟩ := q_22 v x7 x9
  have hm1 : MR mt (sI (sI v 22 x7) 23 x9) f := ra.go (q0.up (by decide) (by decide))
  generalize sI (sI v 22 x7) 23 x9 = v1 at q0 q1 q2 hm1 ⊢
  rw [e7] at q1
  rw [e9] at q2
  refine k_wayM hm1 (k := 1) (by decide) ?_
  refine k_turnP (sin_M hl hm1) (wy_b hm.2.1 1) bx bY ?_
  have a1 := tu_1 v1 x y (wy f 1)
  have a2 := tu_2 v1 x y (wy f 1)
  have af := tu_f v1 x y (wy f 1)
  have am := tu_go hm1 (x := x) (y := y) (w := wy f 1)
  unfold tu at a1 a2 af am
  generalize sI (sI v1 1 (iI (tX x y (wy f 1)))) 2 (iI (tY x y (wy f 1))) = v2 at a1 a2 af am ⊢
  have b22 : gI v2 22 = iI x := (af.1 22 (by decide)).trans q1
  have b23 : gI v2 23 = iI y := (af.1 23 (by decide)).trans q2
  rw [a1, a2, b22, b23, iI_sub, iI_sub]
  intro x15 e15 x17 e17
  obtain ⟨q3, q4, q5⟩ := q_17 v2 x15 x17
  have hm3 : MR mt (sI (sI v2 17 x15) 18 x17) f := am.go (q3.up (by decide) (by decide))
  generalize sI (sI v2 17 x15) 18 x17 = v3 at q3 q4 q5 hm3 ⊢
  rw [e15] at q4
  rw [e17] at q5
  rw [show (0 : Int32) = iI 0 from rfl]
  refine k_turnP (sin_M hl hm3) hw ⟨by omega, by omega⟩ ⟨by decide, by decide⟩ ?_
  have c1 := tu_1 v3 p 0 w
  have c2 := tu_2 v3 p 0 w
  have cf := tu_f v3 p 0 w
  have cm := tu_go hm3 (x := p) (y := 0) (w := w)
  unfold tu at c1 c2 cf cm
  generalize sI (sI v3 1 (iI (tX p 0 w))) 2 (iI (tY p 0 w)) = v4 at c1 c2 cf cm ⊢
  rw [c1, c2, (cf.1 17 (by decide)).trans q4, (cf.1 18 (by decide)).trans q5, iI_add, iI_add]
  intro x21 e21 x23 e23
  obtain ⟨q6, q7, q8, q9⟩ := q_be v4 x21 x23 (iI 0)
  have hm5 : MR mt (sI (sI (sI v4 17 x21) 18 x23) 24 (iI 0)) f := cm.go (q6.up (by decide) (by decide))
  generalize sI (sI (sI v4 17 x21) 18 x23) 24 (iI 0) = v5 at q6 q7 q8 q9 hm5 ⊢
  refine h v5 hm5 ⟨?_, ?_, q7.trans (e21.trans ?_), q8.trans (e23.trans ?_), q9⟩
  · rw [q6.1 22 (by decide), cf.1 22 (by decide), q3.1 22 (by decide)]; exact b22
  · rw [q6.1 23 (by decide), cf.1 23 (by decide), q3.1 23 (by decide)]; exact b23
  · show iI (tX x y (wy f 1) - x + tX p 0 w) = iI (tX p 0 w + (tX x y (wy f 1) - x))
    rw [Int.add_comm]
  · show iI (tY x y (wy f 1) - y + tY p 0 w) = iI (tY p 0 w + (tY x y (wy f 1) - y))
    rw [Int.add_comm]
