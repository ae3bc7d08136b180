theorem k_plX {a b : Int32} {post : Int32 → Prop} (h : post (bI ((-1000 ≤ a.toInt ∧ a.toInt ≤ 1000) ∧ (-1000 ≤ b.toInt ∧ b.toInt ≤ 1000)))) : wp_X10_isPlace a b post :=
  t_x (lo := -1000) (hi := 1000) rfl rfl (br' (fun c => bI_0 h (fun z => c z.1)) (fun c => t_x (lo := -1000) (hi := 1000) rfl rfl (br' (fun d => bI_0 h (fun z => d z.2)) (fun d => bI_1 h ⟨c, d⟩))))
/-- rub and rim -/
theorem rub_of {st mt : St} {j0 j1 : Option St} (h : LR st j0 j1 mt) : ∃ n R : Nat, n < 101 ∧ (100 ≤ R ∧ R ≤ 1000) ∧ gA st 1 3 = iI (n : Int) ∧ gA st 1 4 = iI (R : Int) ∧ gA mt 3 3 = iI (n : Int) ∧ gA mt 3 4 = iI (R : Int) := by
  have b3 := h.2.1.2.2.2.1 3 (by decide)
  have b4 := h.2.1.2.2.2.1 4 (by decide)
  have s3 := h.1.2.2.2.2.2.1 3 (by decide) (by decide)
  have s4 := h.1.2.2.2.2.2.1 4 (by decide) (by decide)
  have z1 : (zL 3).toInt = 0 := by decide +kernel
  have z2 : (zM 3).toInt = 100 := by decide +kernel
  have z3 : (zL 4).toInt = 100 := by decide +kernel
  have z4 : (zM 4).toInt = 1000 := by decide +kernel
  have l3 : 0 ≤ (gA st 1 3).toInt := by have := b3.1; omega
  have u3 : (gA st 1 3).toInt ≤ 100 := by have := b3.2; omega
  have l4 : 100 ≤ (gA st 1 4).toInt := by have := b4.1; omega
  have u4 : (gA st 1 4).toInt ≤ 1000 := by have := b4.2; omega
  obtain ⟨n, hn, en, -⟩ := cl_of (n := 100) l3 u3
  refine ⟨n, (gA st 1 4).toInt.toNat, by omega, by omega, en, ?_, by rw [← s3]; exact en, ?_⟩
  · rw [Int.toNat_of_nonneg (by omega)]; exact iI_of _
  · rw [← s4, Int.toNat_of_nonneg (by omega)]; exact iI_of _
theorem k_rub {st t : St} {f : Nat → Int × Int} (ht : XR st t f) {n : Int} (hn : gA st 1 3 = iI n) {post : Int32 → Prop} (h : post (iI n)) : wp_X7_rub t post := by
  unfold wp_X7_rub
  rw [show (3 : Int32).toNatClampNeg = 3 from rfl, ht.1.2 1 (by decide), hn]
  exact h
theorem k_rim {st t : St} {f : Nat → Int × Int} (ht : XR st t f) {n : Int} (hn : gA st 1 4 = iI n) {post : Int32 → Prop} (h : post (iI n)) : wp_X7_rim t post := by
  unfold wp_X7_rim
  rw [show (4 : Int32).toNatClampNeg = 4 from rfl, ht.1.2 1 (by decide), hn]
  exact h
theorem lp_roX {st : St} {f : Nat → Int × Int} {n : Nat} (hn : n < 101) (h3 : gA st 1 3 = iI (n : Int)) {s0 : Int × Int × Int × Int} {ox oy : Int} (hO : ∀ t : Nat, t ≤ 60 → B4 (rq (n : Int) f s0 t)) {tk : Nat} (htk : tk ≤ 60) {post : Int32 → St → Prop} {K : St → Prop} (h : ∀ t', XR st t' f → XT t' (rq (n : Int) f s0 tk).1 (rq (n : Int) f s0 tk).2.1 ox oy (rq (n : Int) f s0 tk).2.2.1 (rq (n : Int) f s0 tk).2.2.2 → K t') : ∀ m i, i + m = tk → ∀ t, XR st t f → XT t (rq (n : Int) f s0 i).1 (rq (n : Int) f s0 i).2.1 ox oy (rq (n : Int) f s0 i).2.2.1 (rq (n : Int) f s0 i).2.2.2 → wp_X10_rolled_L75 post K (iI (tk : Int)) (m + 1) t (iI (i : Int)) := by
  intro m
  induction m with
  | zero =>
    intro i hi t ht hT
    rw [show i = tk by omega] at hT ⊢
    exact ⟨fun _ => h t ht hT, fun z => absurd (Int32.le_refl _) z⟩
  | succ m ih =>
    intro i hi t ht hT
    have c1 : ¬ iI (tk : Int) ≤ iI (i : Int) := fun z => by
      have := (iI_le ⟨by omega, by omega⟩ ⟨by omega, by omega⟩).mp z
      omega
    have e1 : iI (i : Int) + 1 = iI ((i + 1 : Nat) : Int) := iI_add _ 1
    refine ⟨fun z => absurd z c1, fun _ => k_rub ht h3 (k_rollX ht hT (hO i (by omega)) (by omega) (by omega) (fun t' a b x26 e26 => ?_))⟩
    rw [e26, e1]
    exact ih (i + 1) (by omega) t' a b
theorem lp_roM {st mt : St} {j0 j1 : Option St} (hl : LR st j0 j1 mt) {f : Nat → Int × Int} {n : Nat} (h3 : gA mt 3 3 = iI (n : Int)) {s0 : Int × Int × Int × Int} (hO : ∀ t : Nat, t ≤ 60 → B4 (rq (n : Int) f s0 t) ∧ (t ≤ 59 → ROK (n : Int) (wy f t) (wy f (t + 1)) (rq (n : Int) f s0 t))) {tk : Nat} (htk : tk ≤ 60) {post : Int32 → St → Prop} {K : St → Prop} (h : ∀ u', MR mt u' f → ML u' (rq (n : Int) f s0 tk) tk → K u') : ∀ m i, i + m = tk → ∀ u, MR mt u f → ML u (rq (n : Int) f s0 i) i → wp_X11_rolled_L48 post K (iI (tk : Int)) (m + 1) u := by
  intro m
  induction m with
  | zero =>
    intro i hi u hm hM
    rw [show i = tk by omega] at hM
    refine ⟨fun _ => h u hm hM, fun z => absurd ?_ z⟩
    rw [hM.2.2.2.2]
    exact Int32.le_refl _
  | succ m ih =>
    intro i hi u hm hM
    have c1 : ¬ iI (tk : Int) ≤ gI u 24 := fun z => by
      rw [hM.2.2.2.2] at z
      have := (iI_le ⟨by omega, by omega⟩ ⟨by omega, by omega⟩).mp z
      omega
    exact ⟨fun z => absurd z c1, fun _ => k_rollM hl hm hM (hO i (by omega)).1 h3 (by omega) ((hO i (by omega)).2 (by omega)) (fun u' a b => ih (i + 1) (by omega) u' a b)⟩
theorem o_rolled (st mt : St) (j0 j1 : Option St) (a1 a2 a3 a4 a5 a6 : Int32) (h : LR st j0 j1 mt) : wp_X10_rolled st a1 a2 a3 a4 a5 a6 (fun r st' => wp_X11_rolled mt a1 a2 a3 a4 a5 a6 (fun r' mt' => r = r' ∧ LR st' j0 j1 mt')) := by
  refine k_plX (br' (fun c => k_place (N := 1000) rfl rfl (br' (fun _ => ⟨rfl, h⟩) (fun z => absurd z c))) (fun c => ?_))
  refine k_throwX (br' (fun d => k_place (N := 1000) rfl rfl (br' (fun z => absurd c z) (fun _ => k_throwM (br' (fun _ => ⟨rfl, h⟩) (fun z => absurd z d))))) (fun d => ?_))
  refine k_tickX (br' (fun e => k_place (N := 1000) rfl rfl (br' (fun z => absurd c z) (fun _ => k_throwM (br' (fun z => absurd d z) (fun _ => k_tickM (br' (fun _ => ⟨rfl, h⟩) (fun z => absurd z e))))))) (fun e => ?_))
  refine t_x (lo := 0) (hi := 1) rfl rfl (br (fun g => ?_) (fun g => k_place (N := 1000) rfl rfl (br' (fun z => absurd c z) (fun _ => k_throwM (br' (fun z => absurd d z) (fun _ => k_tickM (br' (fun z => absurd e z) (fun _ => k_endM (br (fun z => absurd z g) (fun _ => ⟨rfl, h⟩))))))))))
  obtain ⟨f, rx, rm⟩ := go_of h
  have pre : ∀ post : Int32 → St → Prop, wp_X11_beginRoll mt a1 a2 a3 a4 (fun t14 => ∃ m48 : Nat, wp_X11_rolled_L48 post (fun t19 => ((¬ a6 = 0) → (post (gI t19 23) t19)) ∧ ((a6 = 0) → (post (gI t19 22) t19))) a5 m48 t14) → wp_X11_rolled mt a1 a2 a3 a4 a5 a6 post := fun post H => k_place (N := 1000) rfl rfl (br' (fun z => absurd c z) (fun _ => k_throwM (br' (fun z => absurd d z) (fun _ => k_tickM (br' (fun z => absurd e z) (fun _ => k_endM (br (fun _ => H) (fun z => absurd g z))))))))
  obtain ⟨p, w, hp, hw, ep, ew⟩ := throw_k d
  obtain ⟨tk, htk, etk, -⟩ := cl_of (n := 60) e.1 e.2
  obtain ⟨n, R, hn, hR, n1, n2, n3, n4⟩ := rub_of h
  have ex : a1 = iI a1.toInt := iI_of _
  have ey : a2 = iI a2.toInt := iI_of _
  obtain ⟨hx, hy⟩ := c
  generalize a1.toInt = x at ex hx
  generalize a2.toInt = y at ey hy
  clear d e
  subst ex ey ep ew etk
  refine rx _ (fun t ht => k_launchP ht ⟨by omega, by omega⟩ ⟨by omega, by omega⟩ hp hw (fun t1 ht1 hT => ?_))
  have ok := rq_ok hn ht.2.1 hx hy hp hw
  refine ⟨tk + 1, lp_roX hn n1 (s0 := (x, y, Gx x y (wy f 1) p w, Gy x y (wy f 1) p w)) (fun t ht => (ok t ht).1) htk (fun t2 ht2 hT2 => ?_) tk 0 (by omega) t1 ht1 hT⟩
  have run : ∀ post : Int32 → St → Prop, (∀ u, MR mt u f → ML u (rq (n : Int) f (x, y, Gx x y (wy f 1) p w, Gy x y (wy f 1) p w) tk) tk → ((¬ a6 = 0) → (post (gI u 23) u)) ∧ ((a6 = 0) → (post (gI u 22) u))) → wp_X11_rolled mt (iI x) (iI y) (iI p) (iI (w : Int)) (iI (tk : Int)) a6 post := fun post H => pre post (k_begin h rm hx hy hp hw (fun u1 hu1 hM1 => ⟨tk + 1, lp_roM h n3 ok htk (fun u2 hu2 hM2 => H u2 hu2 hM2) tk 0 (by omega) u1 hu1 hM1⟩))
  refine ⟨fun z => run _ (fun u hu hM => ⟨fun _ => ⟨?_, h.fr ht2.1 hu.1⟩, fun y => absurd y z⟩), fun z => run _ (fun u hu hM => ⟨fun y => absurd z y, fun _ => ⟨?_, h.fr ht2.1 hu.1⟩⟩)⟩
  · rw [hT2.2.1, hM.2.1, iL_I]
  · rw [hT2.1, hM.1, iL_I]
/-! off -/
abbrev bey (R : Int) (s : Int × Int × Int × Int) : Prop := ¬ s.1 * s.1 + s.2.1 * s.2.1 ≤ R * R
theorem s_b18 {s : Int × Int × Int × Int} (hB : B4 s) : 0 ≤ s.1 * s.1 + s.2.1 * s.2.1 ∧ s.1 * s.1 + s.2.1 * s.2.1 ≤ 1000000000000000000 ∧ s.1 * s.1 ≤ 1000000000000000000 ∧ s.2.1 * s.2.1 ≤ 1000000000000000000 ∧ 0 ≤ s.1 * s.1 ∧ 0 ≤ s.2.1 * s.2.1 := by
  have a := sq_le (a := s.1) (b := 500000000) (by have := hB.1.1; have := hB.1.2; omega)
  have b := sq_le (a := s.2.1) (b := 500000000) (by have := hB.2.1.1; have := hB.2.1.2; omega)
  have c := sq_nn s.1
  have d := sq_nn s.2.1
  omega
theorem k_bey {t : St} {s : Int × Int × Int × Int} {ox oy gx gy : Int} (hT : XT t s.1 s.2.1 ox oy gx gy) (hB : B4 s) {R : Int} (hR : 100 ≤ R ∧ R ≤ 1000) {post : Int32 → Prop} (h : post (bI (bey R s))) : wp_X0_isBeyond t (iI R).toInt64 post := by
  have b := s_b18 hB
  have r := mul_b (a := R) (b := R) (m := 1000) (n := 1000) (by omega) (by omega) (by decide) (by decide)
  unfold wp_X0_isBeyond
  rw [hT.1, hT.2.1, iI_L ⟨by omega, by omega⟩, iL_mul, iL_mul, iL_mul, iL_add, iL_le ⟨by omega, by omega⟩ ⟨by omega, by omega⟩]
  exact ⟨fun z => bI_0 h (fun w => w z), fun z => bI_1 h z⟩
theorem k_off {mt u : St} {f : Nat → Int × Int} (hm : MR mt u f) {s : Int × Int × Int × Int} {i : Nat} (hM : ML u s i) (hB : B4 s) {R : Int} (hR : 100 ≤ R ∧ R ≤ 1000) (h4 : gA mt 3 4 = iI R) {post : Int32 → Prop} (h : post (bI (bey R s))) : wp_X11_isOff u post := by
  have b := s_b18 hB
  have r := mul_b (a := R) (b := R) (m := 1000) (n := 1000) (by omega) (by omega) (by decide) (by decide)
  have g4 : gA u 3 (4 : Int32).toNatClampNeg = iI R := by
    show gA u 3 4 = iI R
    rw [hm.1.2 3 (by decide)]
    exact h4
  have l1 : (iI s.1).toInt64 = iL s.1 := iI_L ⟨by have := hB.1.1; omega, by have := hB.1.2; omega⟩
  have l2 : (iI s.2.1).toInt64 = iL s.2.1 := iI_L ⟨by have := hB.2.1.1; omega, by have := hB.2.1.2; omega⟩
  unfold wp_X11_isOff
  rw [g4, hM.1, hM.2.1, l1, l2, iI_mul, iI_L ⟨by omega, by omega⟩, iL_mul, iL_mul, iL_add, iL_le ⟨by omega, by omega⟩ ⟨by omega, by omega⟩]
  exact ⟨fun z => bI_0 h (fun w => w z), fun z => bI_1 h z⟩
/-- the first tick at which it is beyond the rim -/
def ofr (R : Int) (S : Nat → Int × Int × Int × Int) : Nat → Nat → Int
  | 0, _ => -6
  | m + 1, i => if bey R (S i) then (i : Int) else ofr R S m (i + 1)
theorem lp_ofX {st : St} {f : Nat → Int × Int} {n R : Nat} (hn : n < 101) (hR : 100 ≤ R ∧ R ≤ 1000) (h3 : gA st 1 3 = iI (n : Int)) (h4 : gA st 1 4 = iI (R : Int)) {s0 : Int × Int × Int × Int} {ox oy : Int} (hO : ∀ t : Nat, t ≤ 60 → B4 (rq (n : Int) f s0 t)) {post : Int32 → St → Prop} : ∀ m i, i + m = 61 → ∀ t, XR st t f → (i ≤ 60 → XT t (rq (n : Int) f s0 i).1 (rq (n : Int) f s0 i).2.1 ox oy (rq (n : Int) f s0 i).2.2.1 (rq (n : Int) f s0 i).2.2.2) → (∀ t', XR st t' f → post (iI (ofr (R : Int) (rq (n : Int) f s0) m i)) t') → wp_X10_off_L57 post (fun t30 => post (-6) t30) (m + 1) t (iI (i : Int)) := by
  intro m
  induction m with
  | zero =>
    intro i hi t ht hT h
    rw [show i = 61 by omega]
    exact ⟨fun _ => h t ht, fun z => absurd (by decide) z⟩
  | succ m ih =>
    intro i hi t ht hT h
    have c1 : ¬ (60 : Int32) < iI (i : Int) := fun z => by
      have := (iI_lt (a := 60) ⟨by decide, by decide⟩ ⟨by omega, by omega⟩).mp z
      omega
    have e1 : iI (i : Int) + 1 = iI ((i + 1 : Nat) : Int) := iI_add _ 1
    have l60 : (60 : Int32) ≤ iI (i : Int) ↔ 60 ≤ i := by
      have := iI_le (a := 60) (b := (i : Int)) ⟨by decide, by decide⟩ ⟨by omega, by omega⟩
      constructor
      · intro z
        have := this.mp z
        omega
      · intro z
        exact this.mpr (by omega)
    have hT' := hT (by omega)
    have eo : ofr (R : Int) (rq (n : Int) f s0) (m + 1) i = if bey (R : Int) (rq (n : Int) f s0 i) then (i : Int) else ofr (R : Int) (rq (n : Int) f s0) m (i + 1) := rfl
    rw [eo] at h
    refine ⟨fun z => absurd z c1, fun _ => k_rim ht h4 (k_bey hT' (hO i (by omega)) (by omega) (br' (fun c => ?_) (fun c => ?_)))⟩
    · rw [if_neg c] at h
      rw [l60]
      refine ⟨fun z x22 e22 => ?_, fun z => k_rub ht h3 (k_rollX ht hT' (hO i (by omega)) (by omega) (by omega) (fun t' a b x28 e28 => ?_))⟩
      · rw [e22, e1]
        exact ih (i + 1) (by omega) t ht (fun w => absurd w (by omega)) h
      · rw [e28, e1]
        exact ih (i + 1) (by omega) t' a (fun _ => b) h
    · rw [if_pos c] at h
      exact h t ht
theorem lp_ofM {st mt : St} {j0 j1 : Option St} (hl : LR st j0 j1 mt) {f : Nat → Int × Int} {n R : Nat} (hR : 100 ≤ R ∧ R ≤ 1000) (h3 : gA mt 3 3 = iI (n : Int)) (h4 : gA mt 3 4 = iI (R : Int)) {s0 : Int × Int × Int × Int} (hO : ∀ t : Nat, t ≤ 60 → B4 (rq (n : Int) f s0 t) ∧ (t ≤ 59 → ROK (n : Int) (wy f t) (wy f (t + 1)) (rq (n : Int) f s0 t))) {post : Int32 → St → Prop} : ∀ m i, i + m = 60 → ∀ u, MR mt u f → ML u (rq (n : Int) f s0 i) i → (∀ u', MR mt u' f → post (iI (ofr (R : Int) (rq (n : Int) f s0) (m + 1) i)) u') → wp_X11_off_L32 post (fun t16 => wp_X11_isOff t16 (fun r17 => ((r17 = 0) → (post (-6) t16)) ∧ ((¬ r17 = 0) → (post (gI t16 24) t16)))) (m + 1) u := by
  intro m
  induction m with
  | zero =>
    intro i hi u hm hM h
    have hb := (hO i (by omega)).1
    have c60 : (60 : Int32) ≤ gI u 24 := by
      rw [hM.2.2.2.2, show i = 60 by omega]
      decide
    have eo : ofr (R : Int) (rq (n : Int) f s0) (0 + 1) i = if bey (R : Int) (rq (n : Int) f s0 i) then (i : Int) else -6 := rfl
    rw [eo] at h
    refine k_off hm hM hb (by omega) h4 (br (fun c => ?_) (fun c => ⟨fun _ => ?_, fun z => absurd c60 z⟩))
    · refine k_off hm hM hb (by omega) h4 (br' (fun z => absurd c z) (fun _ => ?_))
      rw [if_pos c] at h
      rw [hM.2.2.2.2]
      exact h u hm
    · refine k_off hm hM hb (by omega) h4 (br' (fun _ => ?_) (fun z => absurd z c))
      rw [if_neg c] at h
      exact h u hm
  | succ m ih =>
    intro i hi u hm hM h
    have hb := (hO i (by omega)).1
    have c60 : ¬ (60 : Int32) ≤ gI u 24 := fun z => by
      rw [hM.2.2.2.2] at z
      have := (iI_le (a := 60) ⟨by decide, by decide⟩ ⟨by omega, by omega⟩).mp z
      omega
    have eo : ofr (R : Int) (rq (n : Int) f s0) (m + 1 + 1) i = if bey (R : Int) (rq (n : Int) f s0 i) then (i : Int) else ofr (R : Int) (rq (n : Int) f s0) (m + 1) (i + 1) := rfl
    rw [eo] at h
    refine k_off hm hM hb (by omega) h4 (br (fun c => ?_) (fun c => ⟨fun z => absurd z c60, fun _ => ?_⟩))
    · refine k_off hm hM hb (by omega) h4 (br' (fun z => absurd c z) (fun _ => ?_))
      rw [if_pos c] at h
      rw [hM.2.2.2.2]
      exact h u hm
    · rw [if_neg c] at h
      exact k_rollM hl hm hM hb h3 (by omega) ((hO i (by omega)).2 (by omega)) (fun u' a b => ih (i + 1) (by omega) u' a b h)
theorem o_off (st mt : St) (j0 j1 : Option St) (a1 a2 a3 a4 : Int32) (h : LR st j0 j1 mt) : wp_X10_off st a1 a2 a3 a4 (fun r st' => wp_X11_off mt a1 a2 a3 a4 (fun r' mt' => r = r' ∧ LR st' j0 j1 mt')) := by
  refine k_plX (br' (fun c => k_place (N := 1000) rfl rfl (br' (fun _ => ⟨rfl, h⟩) (fun z => absurd z c))) (fun c => ?_))
  refine k_throwX (br (fun d => ?_) (fun d => k_place (N := 1000) rfl rfl (br' (fun z => absurd c z) (fun _ => k_throwM (br (fun z => absurd z d) (fun _ => ⟨rfl, h⟩))))))
  obtain ⟨f, rx, rm⟩ := go_of h
  have pre : ∀ post : Int32 → St → Prop, wp_X11_beginRoll mt a1 a2 a3 a4 (fun t8 => ∃ m32 : Nat, wp_X11_off_L32 post (fun t16 => wp_X11_isOff t16 (fun r17 => ((r17 = 0) → (post (-6) t16)) ∧ ((¬ r17 = 0) → (post (gI t16 24) t16)))) m32 t8) → wp_X11_off mt a1 a2 a3 a4 post := fun post H => k_place (N := 1000) rfl rfl (br' (fun z => absurd c z) (fun _ => k_throwM (br (fun _ => H) (fun z => absurd d z))))
  obtain ⟨p, w, hp, hw, ep, ew⟩ := throw_k d
  obtain ⟨n, R, hn, hR, n1, n2, n3, n4⟩ := rub_of h
  have ex : a1 = iI a1.toInt := iI_of _
  have ey : a2 = iI a2.toInt := iI_of _
  obtain ⟨hx, hy⟩ := c
  generalize a1.toInt = x at ex hx
  generalize a2.toInt = y at ey hy
  clear d
  subst ex ey ep ew
  refine rx _ (fun t ht => k_launchP ht ⟨by omega, by omega⟩ ⟨by omega, by omega⟩ hp hw (fun t1 ht1 hT => ?_))
  have ok := rq_ok hn ht.2.1 hx hy hp hw
  refine ⟨62, lp_ofX hn hR n1 n2 (s0 := (x, y, Gx x y (wy f 1) p w, Gy x y (wy f 1) p w)) (fun t ht => (ok t ht).1) 61 0 rfl t1 ht1 (fun _ => hT) (fun t2 ht2 => ?_)⟩
  exact pre _ (k_begin h rm hx hy hp hw (fun u1 hu1 hM1 => ⟨61, lp_ofM h hR n3 n4 ok 60 0 rfl u1 hu1 hM1 (fun u2 hu2 => ⟨rfl, h.fr ht2.1 hu2.1⟩)⟩))
