/-! tries -/
theorem q_9 (t : St) (a : Int32) : FR [9] [] t (sI t 9 a) ∧ gI (sI t 9 a) 9 = a := ⟨FR.sI 9 _ (by decide), rfl⟩
theorem XF.i9 {st t : St} {f : Nat → Int × Int} {k k' : Nat} (h : XF st f k k' t) (v : Int32) : XF st f k k' (sI t 9 v) := ⟨h.1.go (FR.sI 9 v (by decide)), h.2.1, h.2.2⟩
theorem XF.i8 {st t : St} {f : Nat → Int × Int} {k k' : Nat} (h : XF st f k k' t) (v : Int32) : XF st f k k' (sI t 8 v) := ⟨h.1.go (FR.sI 8 v (by decide)), h.2.1, h.2.2⟩
theorem lp_prac {st mt : St} {j0 j1 : Option St} (hl : LR st j0 j1 mt) {f : Nat → Int × Int} (hf : FB f) {k k' : Nat} (hk : k < 8) (hk' : k' < 8) {p : Int} (hp : 0 ≤ p ∧ p ≤ 200) {post : Int32 → St → Prop} {K : St → Prop} : ∀ n w a : Nat, a + n = 25 → w < 24 → ∀ t, XF st f k k' t → gI t 8 = iI (w : Int) → (∀ t', XF st f k k' t' → ∀ b : Nat × Nat, pzr (tc st f k k' p) (Nx st f k k' p) n w a = some b → gI t' 8 = iI (b.1 : Int) → gI t' 9 = iI (b.2 : Int) → post 1 t') → (∀ t', XF st f k k' t' → pzr (tc st f k k' p) (Nx st f k k' p) n w a = none → K t') → wp_X3_practise_L3 post K (iI p) (iI (gA st 1 2).toInt) (n + 1) t (iI (a : Int)) := by
  intro n
  induction n with
  | zero =>
    intro w a ha hw t ht h8 h1 h0
    rw [show a = 25 by omega] at h0 ⊢
    exact ⟨fun _ => h0 t ht rfl, fun z => absurd (by decide) z⟩
  | succ n ih =>
    intro w a ha hw t ht h8 h1 h0
    have c1 : ¬ (24 : Int32) < iI (a : Int) := fun z => by
      have := (iI_lt (a := 24) ⟨by decide, by decide⟩ ⟨by omega, by omega⟩).mp z
      omega
    have e1 : iI (a : Int) + 1 = iI ((a + 1 : Nat) : Int) := iI_add _ 1
    have tb := tc_b (st := st) (f := f) (k := k) (k' := k') (p := p) (w := w)
    have ep : pzr (tc st f k k' p) (Nx st f k k' p) (n + 1) w a = if 0 ≤ tc st f k k' p w then some (w, a) else pzr (tc st f k k' p) (Nx st f k k' p) n (Nx st f k k' p w) (a + 1) := rfl
    rw [ep] at h1 h0
    refine ⟨fun z => absurd z c1, fun _ => ?_⟩
    rw [h8]
    have ht1 := ht.i9 (iI (a : Int))
    obtain ⟨q0, q1⟩ := q_9 t (iI (a : Int))
    generalize sI t 9 (iI (a : Int)) = t1 at ht1 q0 q1 ⊢
    obtain ⟨hx, ⟨gx, gy, hT⟩, hB⟩ := ht1
    have g8 : gI t1 8 = iI (w : Int) := (q0.1 8 (by decide)).trans h8
    refine k_anew hx hT hp hw (fun t' hx' hF eB hT0 => ?_)
    have hT' : XT t' (Px st k) (Py st k) (tX (Px st k) (Py st k) (wy f 1) - Px st k) (tY (Px st k) (Py st k) (wy f 1) - Py st k) (Gx (Px st k) (Py st k) (wy f 1) p w) (Gy (Px st k) (Py st k) (wy f 1) p w) := hT0
    have hB' : XB t' (seX st f k') (seY st f k') := by
      unfold XB
      rw [eB]
      exact hB
    have f8 : gI t' 8 = iI (w : Int) := (hF.1 8 (fun z => nomatch z)).trans g8
    have f9 : gI t' 9 = iI (a : Int) := (hF.1 9 (fun z => nomatch z)).trans q1
    have hG := GB_of hl hf hk hk' hp hw
    have hXF : XF st f k k' t' := ⟨hx', ⟨_, _, hT'⟩, hB'⟩
    refine k_tickC hT' hB' hG (B31_of _) ?_
    have e6 : iI (tc st f k k' p w) = (-6) ↔ tc st f k k' p w = -6 := iI_eq (b := -6) ⟨by omega, by omega⟩ ⟨by decide, by decide⟩
    refine ⟨fun q => ?_, fun q => ?_⟩
    · have q2 := e6.mp q
      rw [if_neg (by omega)] at h1 h0
      refine k_nrX hT' hB' hG ?_
      have nb := nt_b (gp (Px st k) (Py st k) (Gx (Px st k) (Py st k) (wy f 1) p w) (Gy (Px st k) (Py st k) (wy f 1) p w) (seX st f k') (seY st f k')) 59
      refine k_right hT' hB' hG (by omega) ?_
      have nx : ∀ r : Int32, r = iI (Nx st f k k' p w : Int) → wp_X3_practise_L3 post K (iI p) (iI (gA st 1 2).toInt) (n + 1) (sI t' 8 r) (iI ((a + 1 : Nat) : Int)) := by
        intro r er
        have hX := hXF.i8 r
        obtain ⟨_, q8⟩ := q_8 t' r
        generalize sI t' 8 r = t2 at hX q8 ⊢
        exact ih (Nx st f k k' p w) (a + 1) (by omega) (nxw_b _ _ _ _ _ _ _) t2 hX (q8.trans er) h1 h0
      refine br' (fun c => ?_) (fun c => ?_)
      · rw [f8, show (-1 : Int32) = iI (-1) from rfl, iI_add]
        refine k_fm (n := 24) ⟨by omega, by omega⟩ (Or.inl rfl) (fun x16 e16 => ?_)
        rw [e16, e1]
        refine nx _ ?_
        unfold Nx nxw
        rw [if_pos (Classical.not_not.mp c)]
        congr 1
        omega
      · rw [f8, show (1 : Int32) = iI 1 from rfl, iI_add]
        refine k_fm (n := 24) ⟨by omega, by omega⟩ (Or.inl rfl) (fun x16 e16 => ?_)
        have e1' : x16 = iI ((a + 1 : Nat) : Int) := e16.trans e1
        rw [e1']
        refine nx _ ?_
        unfold Nx nxw
        rw [if_neg c]
        congr 1
    · have q2 : ¬ tc st f k k' p w = -6 := fun z => q (e6.mpr z)
      rw [if_pos (by omega)] at h1
      exact h1 t' hXF (w, a) rfl f8 f9
theorem k_caughtM2 {st mt u : St} {j0 j1 : Option St} (hl : LR st j0 j1 mt) {f : Nat → Int × Int} (hm : MR mt u f) {k k' : Nat} (hk : k < 8) (hk' : k' < 8) {p : Int} {w : Nat} (hp : 0 ≤ p ∧ p ≤ 200) (hw : w < 24) {post : Int32 → St → Prop} (h : ∀ u', MR mt u' f → FR mT [] u u' → MT u' (Px st k) (Py st k) (Gx (Px st k) (Py st k) (wy f 1) p w) (Gy (Px st k) (Py st k) (wy f 1) p w) → post (iI (tc st f k k' p w)) u') : wp_X11_caughtOf u (iI (k : Int)) (iI p) (iI (w : Int)) (iI (k' : Int)) post := by
  refine k_layThrow hl hm hk hp hw (fun u' h1 h2 h3 => ?_)
  exact lp_caughtM hl hk' (GB_of hl hm.2.1 hk hk' hp hw) 60 1 rfl u' h1 h3 (fun u2 a b => h u2 a (h2.tr (b.up (by decide) (by decide))) (h3.fr b))
theorem lp_nwM {st mt : St} {j0 j1 : Option St} (hl : LR st j0 j1 mt) {f : Nat → Int × Int} {x y gx gy : Int} {k' : Nat} (hk' : k' < 8) (hg : GB x y gx gy (seX st f k') (seY st f k')) {post : Int32 → St → Prop} {K : St → Int32 → Prop} : ∀ n m, m + n = 59 → ∀ u, MR mt u f → MT u x y gx gy → (∀ u', MR mt u' f → FR [1, 2] [] u u' → MT u' x y gx gy → K u' (iI (nt (gp x y gx gy (seX st f k') (seY st f k')) 59 : Int))) → wp_X11_nextWay_L13 post K (iI (k' : Int)) (n + 1) u (iI (nt (gp x y gx gy (seX st f k') (seY st f k')) m : Int)) (iI (gp x y gx gy (seX st f k') (seY st f k') (nt (gp x y gx gy (seX st f k') (seY st f k')) m))) (iI ((m + 2 : Nat) : Int)) := by
  intro n
  induction n with
  | zero =>
    intro m hm u hu hT h
    rw [show m = 59 by omega]
    exact ⟨fun _ => h u hu (FR.rf _ _ _) hT, fun z => absurd (by decide) z⟩
  | succ n ih =>
    intro m hm u hu hT h
    have c1 : ¬ (60 : Int32) < iI ((m + 2 : Nat) : Int) := fun z => by
      have := (iI_lt (a := 60) ⟨by decide, by decide⟩ ⟨by omega, by omega⟩).mp z
      omega
    have e1 : iI ((m + 2 : Nat) : Int) + 1 = iI ((m + 1 + 2 : Nat) : Int) := iI_add _ 1
    have nb := nt_b (gp x y gx gy (seX st f k') (seY st f k')) m
    have g1 := hg.g (i := m + 2) (by omega)
    have g2 := hg.g (i := nt (gp x y gx gy (seX st f k') (seY st f k')) m) (by omega)
    have en : nt (gp x y gx gy (seX st f k') (seY st f k')) (m + 1) = if gp x y gx gy (seX st f k') (seY st f k') (m + 2) < gp x y gx gy (seX st f k') (seY st f k') (nt (gp x y gx gy (seX st f k') (seY st f k')) m) then m + 2 else nt (gp x y gx gy (seX st f k') (seY st f k')) m := rfl
    have mv := tu_f u (Px st k') (Py st k') (wy f (m + 2))
    have hu' := tu_go hu (x := Px st k') (y := Py st k') (w := wy f (m + 2))
    have hT' := hT.fr mv
    have nx := ih (m + 1) (by omega) _ hu' hT' (fun u' a b c => h u' a (mv.tr b) c)
    rw [en] at nx
    refine ⟨fun z => absurd z c1, fun _ => k_far hl hu hT hk' hg (by omega) ?_⟩
    have le : iI (gp x y gx gy (seX st f k') (seY st f k') (nt (gp x y gx gy (seX st f k') (seY st f k')) m)) ≤ iI (gp x y gx gy (seX st f k') (seY st f k') (m + 2)) ↔ ¬ gp x y gx gy (seX st f k') (seY st f k') (m + 2) < gp x y gx gy (seX st f k') (seY st f k') (nt (gp x y gx gy (seX st f k') (seY st f k')) m) := by
      rw [iI_le ⟨by omega, by omega⟩ ⟨by omega, by omega⟩]
      omega
    refine ⟨fun z x11 e11 => ?_, fun z x13 e13 => ?_⟩
    · rw [if_neg (le.mp z)] at nx
      rw [e11, e1]
      exact nx
    · rw [if_pos (Classical.not_not.mp (fun y => z (le.mpr y)))] at nx
      rw [e13, e1]
      exact nx
theorem k_nwM {st mt u : St} {j0 j1 : Option St} (hl : LR st j0 j1 mt) {f : Nat → Int × Int} (hu : MR mt u f) {x y gx gy : Int} (hT : MT u x y gx gy) {k' : Nat} (hk' : k' < 8) (hg : GB x y gx gy (seX st f k') (seY st f k')) {w : Nat} (hw : w < 24) {post : Int32 → St → Prop} (h : ∀ u', MR mt u' f → FR [1, 2] [] u u' → post (iI (nxw x y gx gy (seX st f k') (seY st f k') w : Int)) u') : wp_X11_nextWay u (iI (w : Int)) (iI (k' : Int)) post := by
  have mv := tu_f u (Px st k') (Py st k') (wy f 1)
  have hu1 := tu_go hu (x := Px st k') (y := Py st k') (w := wy f 1)
  refine k_far (i := 1) hl hu hT hk' hg (by decide) ⟨60, ?_⟩
  refine lp_nwM hl hk' hg (post := post) 59 0 rfl _ hu1 (hT.fr mv) (fun u2 m2 f2 t2 => ?_)
  have nb := nt_b (gp x y gx gy (seX st f k') (seY st f k')) 59
  have eq : nxw x y gx gy (seX st f k') (seY st f k') w = if 0 ≤ rtz x y gx gy (seX st f k') (seY st f k') (nt (gp x y gx gy (seX st f k') (seY st f k')) 59) then (w + 23) % 24 else (w + 1) % 24 := rfl
  rw [eq] at h
  generalize nt (gp x y gx gy (seX st f k') (seY st f k')) 59 = i at nb h ⊢
  refine k_layOne hl m2 hk' (i := i) (by omega) ?_
  have r1 := tu_1 u2 (Px st k') (Py st k') (wy f i)
  have r2 := tu_2 u2 (Px st k') (Py st k') (wy f i)
  have rf := tu_f u2 (Px st k') (Py st k') (wy f i)
  have m3 := tu_go m2 (x := Px st k') (y := Py st k') (w := wy f i)
  generalize tu u2 (Px st k') (Py st k') (wy f i) = v at r1 r2 rf m3 ⊢
  have t3 := t2.fr rf
  refine k_yM t3 (k_xM t3 (fun x23 e23 => ?_))
  have a := bl_b hg.1 hg.2.2.1 (show i ≤ 61 by omega)
  have b := bl_b hg.2.1 hg.2.2.2.1 (show i ≤ 61 by omega)
  have c : (-2000 ≤ tX (Px st k') (Py st k') (wy f i) ∧ tX (Px st k') (Py st k') (wy f i) ≤ 2000) ∧ (-2000 ≤ tY (Px st k') (Py st k') (wy f i) ∧ tY (Px st k') (Py st k') (wy f i) ≤ 2000) := hg.2.2.2.2 i
  have rb := rtz_b hg (i := i) (by omega)
  rw [r1, r2, iI_L ⟨by omega, by omega⟩, iI_L ⟨by omega, by omega⟩, iI_L ⟨by omega, by omega⟩, iI_L ⟨by omega, by omega⟩, iL_mul, iL_mul, iL_sub] at e23
  have e24 : x23 = iL (rtz x y gx gy (seX st f k') (seY st f k') i) := e23
  have e : 0 ≤ x23 ↔ 0 ≤ rtz x y gx gy (seX st f k') (seY st f k') i := by
    rw [e24]
    exact iL_le (a := 0) ⟨by decide, by decide⟩ ⟨by omega, by omega⟩
  rw [e]
  have fr : FR [1, 2] [] u v := mv.tr (f2.tr rf)
  refine ⟨fun z => ?_, fun z => ?_⟩
  · rw [if_pos z] at h
    rw [show (23 : Int32) = iI 23 from rfl, show (24 : Int32) = iI 24 from rfl, iI_add, rem_i (by omega) ⟨by omega, by omega⟩ (by decide) ⟨by decide, by decide⟩]
    exact h v m3 fr
  · rw [if_neg z] at h
    rw [show (1 : Int32) = iI 1 from rfl, show (24 : Int32) = iI 24 from rfl, iI_add, rem_i (by omega) ⟨by omega, by omega⟩ (by decide) ⟨by decide, by decide⟩]
    exact h v m3 fr
theorem q_30 (t : St) (a : Int32) : FR [30] [] t (sI t 30 a) ∧ gI (sI t 30 a) 30 = a := ⟨FR.sI 30 _ (by decide), rfl⟩
theorem lp_try {st mt : St} {j0 j1 : Option St} (hl : LR st j0 j1 mt) {f : Nat → Int × Int} {k k' : Nat} (hk : k < 8) (hk' : k' < 8) {p : Int} (hp : 0 ≤ p ∧ p ≤ 200) {post : Int32 → St → Prop} {K : St → Prop} : ∀ n w a : Nat, a + n = 25 → w < 24 → ∀ u, MR mt u f → gI u 30 = iI (w : Int) → (∀ u', MR mt u' f → ∀ b : Nat × Nat, pzr (tc st f k k' p) (Nx st f k k' p) n w a = some b → gI u' 30 = iI (b.1 : Int) → post (iI (b.2 : Int)) u') → (∀ u', MR mt u' f → pzr (tc st f k k' p) (Nx st f k k' p) n w a = none → K u') → wp_X11_triesFrom_L13 post K (iI (k : Int)) (iI p) (iI (k' : Int)) (n + 1) u (iI (a : Int)) := by
  intro n
  induction n with
  | zero =>
    intro w a ha hw u hu h30 h1 h0
    rw [show a = 25 by omega] at h0 ⊢
    exact ⟨fun _ => h0 u hu rfl, fun z => absurd (by decide) z⟩
  | succ n ih =>
    intro w a ha hw u hu h30 h1 h0
    have c1 : ¬ (24 : Int32) < iI (a : Int) := fun z => by
      have := (iI_lt (a := 24) ⟨by decide, by decide⟩ ⟨by omega, by omega⟩).mp z
      omega
    have e1 : iI (a : Int) + 1 = iI ((a + 1 : Nat) : Int) := iI_add _ 1
    have tb := tc_b (st := st) (f := f) (k := k) (k' := k') (p := p) (w := w)
    have ep : pzr (tc st f k k' p) (Nx st f k k' p) (n + 1) w a = if 0 ≤ tc st f k k' p w then some (w, a) else pzr (tc st f k k' p) (Nx st f k k' p) n (Nx st f k k' p w) (a + 1) := rfl
    rw [ep] at h1 h0
    refine ⟨fun z => absurd z c1, fun _ => ?_⟩
    rw [h30]
    refine k_caughtM2 hl hu hk hk' hp hw (fun u1 hu1 f1 hT => ?_)
    have g30 : gI u1 30 = iI (w : Int) := (f1.1 30 (by decide)).trans h30
    have e6 : iI (tc st f k k' p w) < 0 ↔ tc st f k k' p w < 0 := iI_lt (b := 0) ⟨by omega, by omega⟩ ⟨by decide, by decide⟩
    rw [e6]
    refine ⟨fun q => ?_, fun q => ?_⟩
    · rw [if_neg (by omega)] at h1 h0
      rw [g30]
      refine k_nwM hl hu1 hT hk' (GB_of hl hu.2.1 hk hk' hp hw) hw (fun u2 hu2 f2 x11 e11 => ?_)
      rw [e11, e1]
      obtain ⟨q0, q1⟩ := q_30 u2 (iI (Nx st f k k' p w : Int))
      have hu3 : MR mt (sI u2 30 (iI (Nx st f k k' p w : Int))) f := hu2.go (q0.up (by decide) (by decide))
      have goal : ∀ u3, MR mt u3 f → gI u3 30 = iI (Nx st f k k' p w : Int) → wp_X11_triesFrom_L13 post K (iI (k : Int)) (iI p) (iI (k' : Int)) (n + 1) u3 (iI ((a + 1 : Nat) : Int)) := fun u3 a3 b3 => ih (Nx st f k k' p w) (a + 1) (by omega) (nxw_b _ _ _ _ _ _ _) u3 a3 b3 h1 h0
      exact goal _ hu3 q1
    · rw [if_pos (by omega)] at h1
      exact h1 u1 hu1 (w, a) rfl g30
