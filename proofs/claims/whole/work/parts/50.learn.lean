/-! one who learns: the first way -/
def prd (dx dy p : Int) (w : Nat) : Int := dx * tX p 0 w + dy * tY p 0 w
def aw (dx dy p : Int) : Nat → Nat
  | 0 => 0
  | k + 1 => if prd dx dy p (aw dx dy p k) < prd dx dy p (k + 1) then k + 1 else aw dx dy p k
theorem aw_b (dx dy p : Int) : ∀ k, aw dx dy p k ≤ k := by
  intro k
  induction k with
  | zero => exact Nat.le_refl _
  | succ k ih =>
    unfold aw
    by_cases q : prd dx dy p (aw dx dy p k) < prd dx dy p (k + 1)
    · rw [if_pos q]; exact Nat.le_refl _
    · rw [if_neg q]; omega
theorem pr_b {dx dy p : Int} (hx : -2000 ≤ dx ∧ dx ≤ 2000) (hy : -2000 ≤ dy ∧ dy ≤ 2000) (hp : 0 ≤ p ∧ p ≤ 200) {w : Nat} (hw : w < 24) : -4000000 ≤ prd dx dy p w ∧ prd dx dy p w ≤ 4000000 := by
  have t := tXY_0 (p := p) hw (by omega)
  have a := mul_b hx t.1 (by decide) (by decide)
  have b := mul_b hy t.2 (by decide) (by decide)
  unfold prd
  omega
theorem k_prod {dx dy p : Int} (hx : -2000 ≤ dx ∧ dx ≤ 2000) (hy : -2000 ≤ dy ∧ dy ≤ 2000) (hp : 0 ≤ p ∧ p ≤ 200) {w : Nat} (hw : w < 24) {post : Int64 → Prop} (h : post (iL (prd dx dy p w))) : wp_X3_product (iI dx) (iI dy) (iI p) (iI (w : Int)) post := by
  unfold wp_X3_product
  have b0 : b9 0 := ⟨by decide, by decide⟩
  have bp : b9 p := ⟨by omega, by omega⟩
  rw [iI_L (z := p) ⟨by omega, by omega⟩, show (0 : Int64) = iL 0 from rfl]
  refine k_turnX hw bp b0 (k_turnY hw bp b0 ?_)
  rw [iI_L ⟨by omega, by omega⟩, iI_L ⟨by omega, by omega⟩, iL_mul, iL_mul, iL_add]
  exact h
theorem pr_le {dx dy p : Int} (hx : -2000 ≤ dx ∧ dx ≤ 2000) (hy : -2000 ≤ dy ∧ dy ≤ 2000) (hp : 0 ≤ p ∧ p ≤ 200) {w v : Nat} (hw : w < 24) (hv : v < 24) : iL (prd dx dy p w) ≤ iL (prd dx dy p v) ↔ ¬ prd dx dy p v < prd dx dy p w := by
  have a := pr_b hx hy hp hw
  have b := pr_b hx hy hp hv
  rw [iL_le ⟨by omega, by omega⟩ ⟨by omega, by omega⟩]
  omega
theorem q_8 (t : St) (a : Int32) : FR [8] [] t (sI t 8 a) ∧ gI (sI t 8 a) 8 = a := ⟨FR.sI 8 _ (by decide), rfl⟩
theorem lp_aim {st : St} {dx dy p : Int} (hx : -2000 ≤ dx ∧ dx ≤ 2000) (hy : -2000 ≤ dy ∧ dy ≤ 2000) (hp : 0 ≤ p ∧ p ≤ 200) {post K : St → Prop} (h : ∀ t', FR [8] [] st t' → gI t' 8 = iI (aw dx dy p 23 : Int) → K t') : ∀ n k, k + n = 23 → ∀ t, FR [8] [] st t → gI t 8 = iI (aw dx dy p k : Int) → wp_X3_aim_L8 post K (iI dx) (iI dy) (iI p) (n + 1) t (iI ((k + 1 : Nat) : Int)) := by
  intro n
  induction n with
  | zero =>
    intro k hk t ht h8
    rw [show k = 23 by omega] at h8 ⊢
    exact ⟨fun _ => h t ht h8, fun z => absurd (by decide) z⟩
  | succ n ih =>
    intro k hk t ht h8
    have c1 : ¬ (24 : Int32) ≤ iI ((k + 1 : Nat) : Int) := fun z => by
      have := (iI_le (a := 24) ⟨by decide, by decide⟩ ⟨by omega, by omega⟩).mp z
      omega
    have e1 : iI ((k + 1 : Nat) : Int) + 1 = iI ((k + 1 + 1 : Nat) : Int) := iI_add _ 1
    have ab := aw_b dx dy p k
    have ea : aw dx dy p (k + 1) = if prd dx dy p (aw dx dy p k) < prd dx dy p (k + 1) then k + 1 else aw dx dy p k := rfl
    refine ⟨fun z => absurd z c1, fun _ => k_prod hx hy hp (by omega) ?_⟩
    rw [h8]
    refine k_prod hx hy hp (by omega) ?_
    rw [pr_le hx hy hp (by omega) (by omega)]
    refine ⟨fun z x9 e9 => ?_, fun z x11 e11 => ?_⟩
    · rw [if_neg z] at ea
      rw [e9, e1]
      exact ih (k + 1) (by omega) t ht (by rw [ea]; exact h8)
    · rw [if_pos (Classical.not_not.mp z)] at ea
      obtain ⟨q0, q1⟩ := q_8 t (iI ((k + 1 : Nat) : Int))
      generalize sI t 8 (iI ((k + 1 : Nat) : Int)) = t' at q0 q1 ⊢
      rw [e11, e1]
      exact ih (k + 1) (by omega) t' (ht.tr q0) (by rw [ea]; exact q1)
theorem k_aim {st : St} {dx dy p : Int} (hx : -2000 ≤ dx ∧ dx ≤ 2000) (hy : -2000 ≤ dy ∧ dy ≤ 2000) (hp : 0 ≤ p ∧ p ≤ 200) {post : St → Prop} (h : ∀ t', FR [8] [] st t' → gI t' 8 = iI (aw dx dy p 23 : Int) → post t') : wp_X3_aim st (iI dx) (iI dy) (iI p) post := by
  obtain ⟨q0, q1⟩ := q_8 st 0
  unfold wp_X3_aim
  generalize sI st 8 0 = t at q0 q1 ⊢
  exact ⟨24, lp_aim hx hy hp h 23 0 rfl t q0 q1⟩
/-- one way looked at by the reference -/
theorem fw_s {st mt u : St} {j0 j1 : Option St} (hl : LR st j0 j1 mt) (hu : FR [1, 2] [] mt u) {k k' : Nat} (hk : k < 8) (hk' : k' < 8) {p : Int} (hp : 0 ≤ p ∧ p ≤ 200) {w : Nat} (hw : w < 24) {Q : St → Int64 → Prop} (h : ∀ u', FR [1, 2] [] mt u' → Q u' (iL (prd (Px st k' - Px st k) (Py st k' - Py st k) p w))) : wp_X11_turnPoint u (iI p) 0 (iI (w : Int)) (fun t7 => vp_in (iI (k' : Int)) 8 ∧ (vp_in (iI (k : Int)) 8 ∧ (vp_in (iI (k' : Int)) 8 ∧ (vp_in (iI (k : Int)) 8 ∧ (∀ x8 : Int64, x8 = (((gI t7 1).toInt64 * ((gA t7 12 (iI (k' : Int)).toNatClampNeg) - (gA t7 12 (iI (k : Int)).toNatClampNeg)).toInt64) + ((gI t7 2).toInt64 * ((gA t7 13 (iI (k' : Int)).toNatClampNeg) - (gA t7 13 (iI (k : Int)).toNatClampNeg)).toInt64)) → Q t7 x8))))) := by
  have hin : vp_in (iI (k : Int)) 8 := iI_in (by omega) (by omega) (by decide)
  have hin' : vp_in (iI (k' : Int)) 8 := iI_in (by omega) (by omega) (by decide)
  have a := P_b hl hk
  have b := P_b hl hk'
  have t := tXY_0 (p := p) hw (by omega)
  rw [show (0 : Int32) = iI 0 from rfl]
  refine k_turnP (by rw [hu.2 0 (by decide)]; exact hl.2.2.2.1) hw ⟨by omega, by omega⟩ ⟨by decide, by decide⟩ ?_
  have r1 := tu_1 u p 0 w
  have r2 := tu_2 u p 0 w
  have rf := tu_f u p 0 w
  unfold tu at r1 r2 rf
  generalize sI (sI u 1 (iI (tX p 0 w))) 2 (iI (tY p 0 w)) = v at r1 r2 rf ⊢
  have hv := hu.tr rf
  refine ⟨hin', hin, hin', hin, fun x8 e8 => ?_⟩
  have s := hl.1.2.2.2.2.2.2.2.1 k hk
  have s' := hl.1.2.2.2.2.2.2.2.1 k' hk'
  have o12 : gA v 12 k = iI (Px st k) := by rw [hv.2 12 (by decide), ← s.1]; exact iI_of _
  have o13 : gA v 13 k = iI (Py st k) := by rw [hv.2 13 (by decide), ← s.2]; exact iI_of _
  have p12 : gA v 12 k' = iI (Px st k') := by rw [hv.2 12 (by decide), ← s'.1]; exact iI_of _
  have p13 : gA v 13 k' = iI (Py st k') := by rw [hv.2 13 (by decide), ← s'.2]; exact iI_of _
  rw [cl_n (show k ≤ 8 by omega) (by decide), cl_n (show k' ≤ 8 by omega) (by decide), o12, o13, p12, p13, r1, r2, iI_sub, iI_sub, iI_L ⟨by omega, by omega⟩, iI_L ⟨by omega, by omega⟩, iI_L ⟨by omega, by omega⟩, iI_L ⟨by omega, by omega⟩, iL_mul, iL_mul, iL_add, Int.mul_comm (tX p 0 w), Int.mul_comm (tY p 0 w)] at e8
  rw [e8]
  exact h v hv
theorem lp_fw {st mt : St} {j0 j1 : Option St} (hl : LR st j0 j1 mt) {k k' : Nat} (hk : k < 8) (hk' : k' < 8) {p : Int} (hp : 0 ≤ p ∧ p ≤ 200) {post : Int32 → St → Prop} {K : St → Int32 → Prop} (h : ∀ u', FR [1, 2] [] mt u' → K u' (iI (aw (Px st k' - Px st k) (Py st k' - Py st k) p 23 : Int))) : ∀ n m, m + n = 23 → ∀ u, FR [1, 2] [] mt u → wp_X11_firstWay_L9 post K (iI (k : Int)) (iI p) (iI (k' : Int)) (n + 1) u (iI (aw (Px st k' - Px st k) (Py st k' - Py st k) p m : Int)) (iL (prd (Px st k' - Px st k) (Py st k' - Py st k) p (aw (Px st k' - Px st k) (Py st k' - Py st k) p m))) (iI ((m + 1 : Nat) : Int)) := by
  have a := P_b hl hk
  have b := P_b hl hk'
  have hx : -2000 ≤ Px st k' - Px st k ∧ Px st k' - Px st k ≤ 2000 := by omega
  have hy : -2000 ≤ Py st k' - Py st k ∧ Py st k' - Py st k ≤ 2000 := by omega
  intro n
  induction n with
  | zero =>
    intro m hm u hu
    rw [show m = 23 by omega]
    exact ⟨fun _ => h u hu, fun z => absurd (by decide) z⟩
  | succ n ih =>
    intro m hm u hu
    have c1 : ¬ (24 : Int32) ≤ iI ((m + 1 : Nat) : Int) := fun z => by
      have := (iI_le (a := 24) ⟨by decide, by decide⟩ ⟨by omega, by omega⟩).mp z
      omega
    have c2 : ¬ iI ((m + 1 : Nat) : Int) = 0 := fun z => by
      have := (iI_eq (b := 0) ⟨by omega, by omega⟩ ⟨by decide, by decide⟩).mp z
      omega
    have e1 : iI ((m + 1 : Nat) : Int) + 1 = iI ((m + 1 + 1 : Nat) : Int) := iI_add _ 1
    have ab := aw_b (Px st k' - Px st k) (Py st k' - Py st k) p m
    have ea : aw (Px st k' - Px st k) (Py st k' - Py st k) p (m + 1) = if prd (Px st k' - Px st k) (Py st k' - Py st k) p (aw (Px st k' - Px st k) (Py st k' - Py st k) p m) < prd (Px st k' - Px st k) (Py st k' - Py st k) p (m + 1) then m + 1 else aw (Px st k' - Px st k) (Py st k' - Py st k) p m := rfl
    have nx := ih (m + 1) (by omega)
    rw [ea] at nx
    refine ⟨fun z => absurd z c1, fun _ => fw_s hl hu hk hk' hp (by omega) (fun v hv => ⟨fun z => absurd z c2, fun _ => ?_⟩)⟩
    rw [pr_le hx hy hp (by omega) (by omega)]
    refine ⟨fun z x14 e14 => ?_, fun z x16 e16 => ?_⟩
    · rw [if_neg z] at nx
      rw [e14, e1]
      exact nx v hv
    · rw [if_pos (Classical.not_not.mp z)] at nx
      rw [e16, e1]
      exact nx v hv
theorem k_fw {st mt : St} {j0 j1 : Option St} (hl : LR st j0 j1 mt) {k k' : Nat} (hk : k < 8) (hk' : k' < 8) {p : Int} (hp : 0 ≤ p ∧ p ≤ 200) {post : Int32 → St → Prop} (h : ∀ u', FR [1, 2] [] mt u' → post (iI (aw (Px st k' - Px st k) (Py st k' - Py st k) p 23 : Int)) u') : wp_X11_firstWay mt (iI (k : Int)) (iI p) (iI (k' : Int)) post := by
  refine ⟨25, fun z => absurd z (by decide), fun _ => ?_⟩
  refine fw_s hl (FR.rf _ _ _) hk hk' hp (w := 0) (by decide) (Q := fun t7 x8 => _) (fun v hv => ⟨fun _ x11 e11 => ?_, fun z => absurd rfl z⟩)
  rw [e11]
  exact lp_fw hl hk hk' hp (post := post) (K := fun t19 v18 => post v18 t19) h 23 0 rfl v hv
/-! the next way -/
def nt (G : Nat → Int) : Nat → Nat
  | 0 => 1
  | m + 1 => if G (m + 2) < G (nt G m) then m + 2 else nt G m
theorem nt_b (G : Nat → Int) : ∀ m, 1 ≤ nt G m ∧ nt G m ≤ m + 1 := by
  intro m
  induction m with
  | zero => exact ⟨Nat.le_refl _, Nat.le_refl _⟩
  | succ m ih =>
    unfold nt
    by_cases q : G (m + 2) < G (nt G m)
    · rw [if_pos q]; omega
    · rw [if_neg q]; omega
theorem lp_nrX {t : St} {x y ox oy gx gy : Int} {sx sy : Nat → Int} (ht : XT t x y ox oy gx gy) (hb : XB t sx sy) (hg : GB x y gx gy sx sy) {post K : Int32 → Prop} (h : K (iI (nt (gp x y gx gy sx sy) 59 : Int))) : ∀ n m, m + n = 59 → wp_X0_tickNearest_L12 post K t (n + 1) (iI (nt (gp x y gx gy sx sy) m : Int)) (iL (gp x y gx gy sx sy (nt (gp x y gx gy sx sy) m))) (iI ((m + 2 : Nat) : Int)) := by
  intro n
  induction n with
  | zero =>
    intro m hm
    rw [show m = 59 by omega]
    exact ⟨fun _ => h, fun z => absurd (by decide) z⟩
  | succ n ih =>
    intro m hm
    have c1 : ¬ (60 : Int32) < iI ((m + 2 : Nat) : Int) := fun z => by
      have := (iI_lt (a := 60) ⟨by decide, by decide⟩ ⟨by omega, by omega⟩).mp z
      omega
    have e1 : iI ((m + 2 : Nat) : Int) + 1 = iI ((m + 1 + 2 : Nat) : Int) := iI_add _ 1
    have nb := nt_b (gp x y gx gy sx sy) m
    have g1 := hg.g (i := m + 2) (by omega)
    have g2 := hg.g (i := nt (gp x y gx gy sx sy) m) (by omega)
    have en : nt (gp x y gx gy sx sy) (m + 1) = if gp x y gx gy sx sy (m + 2) < gp x y gx gy sx sy (nt (gp x y gx gy sx sy) m) then m + 2 else nt (gp x y gx gy sx sy) m := rfl
    have nx := ih (m + 1) (by omega)
    rw [en] at nx
    refine ⟨fun z => absurd z c1, fun _ => k_gap ht hb hg (by omega) ?_⟩
    rw [iL_le ⟨by omega, by omega⟩ ⟨by omega, by omega⟩]
    refine ⟨fun z x11 e11 => ?_, fun z x13 e13 => ?_⟩
    · rw [if_neg (by omega)] at nx
      rw [e11, e1]
      exact nx
    · rw [if_pos (by omega)] at nx
      rw [e13, e1]
      exact nx
theorem k_nrX {t : St} {x y ox oy gx gy : Int} {sx sy : Nat → Int} (ht : XT t x y ox oy gx gy) (hb : XB t sx sy) (hg : GB x y gx gy sx sy) {post : Int32 → Prop} (h : post (iI (nt (gp x y gx gy sx sy) 59 : Int))) : wp_X0_tickNearest t post := k_gap (i := 1) ht hb hg (by decide) ⟨60, lp_nrX ht hb hg (post := post) (K := fun v15 => post v15) h 59 0 rfl⟩
def rtz (x y gx gy : Int) (sx sy : Nat → Int) (i : Nat) : Int := sx i * bl y gy i - sy i * bl x gx i
theorem rtz_b {x y gx gy : Int} {sx sy : Nat → Int} (hg : GB x y gx gy sx sy) {i : Nat} (hi : i ≤ 61) : -1000000000 ≤ rtz x y gx gy sx sy i ∧ rtz x y gx gy sx sy i ≤ 1000000000 := by
  have a := bl_b hg.1 hg.2.2.1 hi
  have b := bl_b hg.2.1 hg.2.2.2.1 hi
  have c := hg.2.2.2.2 i
  have d := mul_b c.1 b (by decide) (by decide)
  have e := mul_b c.2 a (by decide) (by decide)
  unfold rtz
  omega
theorem k_right {t : St} {x y ox oy gx gy : Int} {sx sy : Nat → Int} (ht : XT t x y ox oy gx gy) (hb : XB t sx sy) (hg : GB x y gx gy sx sy) {i : Nat} (hi : i ≤ 60) {post : Int32 → Prop} (h : post (bI (¬ 0 ≤ rtz x y gx gy sx sy i))) : wp_X0_isRightOf t (iI (i : Int)) post := by
  have hin : vp_in (iI (i : Int)) 61 := iI_in (by omega) (by omega) (by decide)
  have rb := rtz_b hg (i := i) (by omega)
  refine ⟨hin, k_yB ht (by omega) ⟨hin, k_xB ht (by omega) ?_⟩⟩
  rw [cl_n hi (by decide), (hb i hi).1, (hb i hi).2, iL_mul, iL_mul, iL_sub]
  have e : 0 ≤ iL (sx i * bl y gy i - sy i * bl x gx i) ↔ 0 ≤ rtz x y gx gy sx sy i := iL_le (a := 0) (b := rtz x y gx gy sx sy i) ⟨by decide, by decide⟩ ⟨by omega, by omega⟩
  rw [e]
  exact ⟨fun z => bI_0 h (fun w => w z), fun z => bI_1 h z⟩
def nxw (x y gx gy : Int) (sx sy : Nat → Int) (w : Nat) : Nat := if 0 ≤ rtz x y gx gy sx sy (nt (gp x y gx gy sx sy) 59) then (w + 23) % 24 else (w + 1) % 24
theorem nxw_b (x y gx gy : Int) (sx sy : Nat → Int) (w : Nat) : nxw x y gx gy sx sy w < 24 := by
  unfold nxw
  by_cases q : 0 ≤ rtz x y gx gy sx sy (nt (gp x y gx gy sx sy) 59)
  · rw [if_pos q]; omega
  · rw [if_neg q]; omega
def pzr (T : Nat → Int) (Nx : Nat → Nat) : Nat → Nat → Nat → Option (Nat × Nat)
  | 0, _, _ => none
  | n + 1, w, a => if 0 ≤ T w then some (w, a) else pzr T Nx n (Nx w) (a + 1)
theorem pzr_b (T : Nat → Int) (Nx : Nat → Nat) (hN : ∀ w, Nx w < 24) : ∀ n w a b, w < 24 → pzr T Nx n w a = some b → b.1 < 24 ∧ a ≤ b.2 ∧ b.2 < a + n := by
  intro n
  induction n with
  | zero => intro w a b _ h; exact absurd h (by intro z; cases z)
  | succ n ih =>
    intro w a b hw h
    unfold pzr at h
    by_cases q : 0 ≤ T w
    · rw [if_pos q] at h
      have e := Option.some.inj h
      rw [← e]
      exact ⟨hw, Nat.le_refl _, by show a < a + (n + 1); omega⟩
    · rw [if_neg q] at h
      have := ih (Nx w) (a + 1) b (hN w) h
      omega
/-- the next way behind a throw -/
def Nx (st : St) (f : Nat → Int × Int) (k k' : Nat) (p : Int) (w : Nat) : Nat := nxw (Px st k) (Py st k) (Gx (Px st k) (Py st k) (wy f 1) p w) (Gy (Px st k) (Py st k) (wy f 1) p w) (seX st f k') (seY st f k') w
