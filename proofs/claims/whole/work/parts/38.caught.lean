/-! catching -/
theorem absL {z : Int} (h : b9 z) : (if 0 < iL z then iL z else -iL z) = iL (z.natAbs : Int) := by
  have hz : B63 z := ⟨by have := h.1; omega, by have := h.2; omega⟩
  have e : (0 < iL z) ↔ 0 < z := iL_lt (a := 0) ⟨by decide, by decide⟩ hz
  by_cases q : 0 < z
  · rw [if_pos (e.mpr q), show (z.natAbs : Int) = z by omega]
  · rw [if_neg (fun w => q (e.mp w)), iL_neg, show (z.natAbs : Int) = -z by omega]
theorem maxL {a b : Int} (ha : b9 a) (hb : b9 b) : (if iL a < iL b then iL b else iL a) = iL (if a < b then b else a) := by
  have e : (iL a < iL b) ↔ a < b := iL_lt ⟨by have := ha.1; omega, by have := ha.2; omega⟩ ⟨by have := hb.1; omega, by have := hb.2; omega⟩
  by_cases q : a < b
  · rw [if_pos (e.mpr q), if_pos q]
  · rw [if_neg (fun w => q (e.mp w)), if_neg q]
/-- how far a ball is from a seat -/
def gp (x y gx gy : Int) (sx sy : Nat → Int) (i : Nat) : Int := if ((bl y gy i - sy i).natAbs : Int) < ((bl x gx i - sx i).natAbs : Int) then ((bl x gx i - sx i).natAbs : Int) else ((bl y gy i - sy i).natAbs : Int)
def tcf (G : Nat → Int) (R : Int) : Nat → Nat → Int
  | 0, _ => -6
  | n + 1, i => if R < G i then tcf G R n (i + 1) else i
/-- bounds of a ball and a seat -/
def GB (x y gx gy : Int) (sx sy : Nat → Int) : Prop := (-1000 ≤ x ∧ x ≤ 1000) ∧ (-1000 ≤ y ∧ y ≤ 1000) ∧ (-3400 ≤ gx ∧ gx ≤ 3400) ∧ (-3400 ≤ gy ∧ gy ≤ 3400) ∧ ∀ k, (-2000 ≤ sx k ∧ sx k ≤ 2000) ∧ (-2000 ≤ sy k ∧ sy k ≤ 2000)
theorem GB.d {x y gx gy : Int} {sx sy : Nat → Int} (h : GB x y gx gy sx sy) {i : Nat} (hi : i ≤ 61) : (-210400 ≤ bl x gx i - sx i ∧ bl x gx i - sx i ≤ 210400) ∧ (-210400 ≤ bl y gy i - sy i ∧ bl y gy i - sy i ≤ 210400) := by
  have a := bl_b h.1 h.2.2.1 hi
  have b := bl_b h.2.1 h.2.2.2.1 hi
  have c := h.2.2.2.2 i
  omega
theorem GB.g {x y gx gy : Int} {sx sy : Nat → Int} (h : GB x y gx gy sx sy) {i : Nat} (hi : i ≤ 61) : 0 ≤ gp x y gx gy sx sy i ∧ gp x y gx gy sx sy i ≤ 210400 := by
  have a := h.d hi
  unfold gp
  by_cases q : ((bl y gy i - sy i).natAbs : Int) < ((bl x gx i - sx i).natAbs : Int)
  · rw [if_pos q]; omega
  · rw [if_neg q]; omega
def XB (t : St) (sx sy : Nat → Int) : Prop := ∀ k, k ≤ 60 → gB t 0 k = iL (sx k) ∧ gB t 1 k = iL (sy k)
theorem k_gap {t : St} {x y ox oy gx gy : Int} {sx sy : Nat → Int} (ht : XT t x y ox oy gx gy) (hb : XB t sx sy) (hg : GB x y gx gy sx sy) {i : Nat} (hi : i ≤ 60) {post : Int64 → Prop} (h : post (iL (gp x y gx gy sx sy i))) : wp_X0_gap t (iI (i : Int)) post := by
  have hin : vp_in (iI (i : Int)) 61 := iI_in (by omega) (by omega) (by decide)
  have hd := hg.d (i := i) (by omega)
  refine k_xB ht (by omega) ⟨hin, k_yB ht (by omega) ⟨hin, ?_⟩⟩
  rw [cl_n hi (by decide), (hb i hi).1, (hb i hi).2, iL_sub, iL_sub, absL (b9_1 hd.1 (by decide)), absL (b9_1 hd.2 (by decide)), maxL ⟨by omega, by omega⟩ ⟨by omega, by omega⟩]
  exact h
theorem lp_tickX {t : St} {x y ox oy gx gy : Int} {sx sy : Nat → Int} (ht : XT t x y ox oy gx gy) (hb : XB t sx sy) (hg : GB x y gx gy sx sy) {R : Int} (hR : B31 R) {post : Int32 → Prop} : ∀ (n i : Nat), i + n = 61 → post (iI (tcf (gp x y gx gy sx sy) R n i)) → ∃ m, wp_X0_tickCaught_L2 post (post (-6)) t (iI R) m (iI (i : Int)) := by
  intro n
  induction n with
  | zero =>
    intro i hi h
    refine ⟨1, fun _ => h, fun q => absurd ?_ q⟩
    rw [show i = 61 by omega]
    decide
  | succ n ih =>
    intro i hi h
    have hgi := hg.g (i := i) (by omega)
    have c1 : ¬ (60 : Int32) < iI (i : Int) := by
      intro q
      have := (iI_lt (a := 60) ⟨by decide, by decide⟩ ⟨by omega, by omega⟩).mp q
      omega
    have e1 : iI (i : Int) + 1 = iI ((i + 1 : Nat) : Int) := iI_add _ 1
    have e2 : (iI R).toInt64 < iL (gp x y gx gy sx sy i) ↔ R < gp x y gx gy sx sy i := by
      rw [iI_L hR]
      exact iL_lt ⟨by have := hR.1; omega, by have := hR.2; omega⟩ ⟨by omega, by omega⟩
    by_cases q : R < gp x y gx gy sx sy i
    · have h' : post (iI (tcf (gp x y gx gy sx sy) R n (i + 1))) := by
        unfold tcf at h
        rw [if_pos q] at h
        exact h
      obtain ⟨m, hm⟩ := ih (i + 1) (by omega) h'
      refine ⟨m + 1, fun w => absurd w c1, fun _ => k_gap ht hb hg (by omega) ⟨fun _ x7 e7 => ?_, fun w => absurd (e2.mpr q) w⟩⟩
      rw [e7, e1]
      exact hm
    · have h' : post (iI (i : Int)) := by
        unfold tcf at h
        rw [if_neg q] at h
        exact h
      exact ⟨1, fun w => absurd w c1, fun _ => k_gap ht hb hg (by omega) ⟨fun w => absurd (e2.mp w) q, fun _ => h'⟩⟩
theorem k_tickC {t : St} {x y ox oy gx gy : Int} {sx sy : Nat → Int} (ht : XT t x y ox oy gx gy) (hb : XB t sx sy) (hg : GB x y gx gy sx sy) {R : Int} (hR : B31 R) {post : Int32 → Prop} (h : post (iI (tcf (gp x y gx gy sx sy) R 60 1))) : wp_X0_tickCaught t (iI R) post := lp_tickX ht hb hg hR 60 1 rfl h
theorem k_size {z : Int} (h : b9 z) {post : Int32 → Prop} (hp : post (iI (z.natAbs : Int))) : wp_X11_size (iI z) post := by
  have e : (0 ≤ iI z) ↔ 0 ≤ z := iI_le (a := 0) ⟨by decide, by decide⟩ ⟨by have := h.1; omega, by have := h.2; omega⟩
  refine ⟨fun q => ?_, fun q => ?_⟩
  · have := e.mp q
    rw [show (z.natAbs : Int) = z by omega] at hp
    exact hp
  · have q2 : ¬ 0 ≤ z := fun w => q (e.mpr w)
    rw [show (z.natAbs : Int) = -z by omega] at hp
    rw [iI_neg]
    exact hp
theorem MT.fr {u u' : St} {x y gx gy : Int} (h : MT u x y gx gy) (h2 : FR [1, 2] [] u u') : MT u' x y gx gy := by
  unfold MT
  rw [h2.1 15 (by decide), h2.1 16 (by decide), h2.1 17 (by decide), h2.1 18 (by decide)]
  exact h
theorem k_far {st mt u : St} {j0 j1 : Option St} (hl : LR st j0 j1 mt) {f : Nat → Int × Int} (hm : MR mt u f) {x y gx gy : Int} (hu : MT u x y gx gy) {k : Nat} (hk : k < 8) (hg : GB x y gx gy (fun i => tX (Px st k) (Py st k) (wy f i)) (fun i => tY (Px st k) (Py st k) (wy f i))) {i : Nat} (hi : i ≤ 61) {post : Int32 → St → Prop} (h : post (iI (gp x y gx gy (fun i => tX (Px st k) (Py st k) (wy f i)) (fun i => tY (Px st k) (Py st k) (wy f i)) i)) (tu u (Px st k) (Py st k) (wy f i))) : wp_X11_farFrom u (iI (k : Int)) (iI (i : Int)) post := by
  have hd := hg.d hi
  refine k_layOne hl hm hk hi ?_
  have r1 := tu_1 u (Px st k) (Py st k) (wy f i)
  have r2 := tu_2 u (Px st k) (Py st k) (wy f i)
  have hu' := hu.fr (tu_f u (Px st k) (Py st k) (wy f i))
  generalize tu u (Px st k) (Py st k) (wy f i) = v at r1 r2 hu' h ⊢
  refine k_xM hu' ?_
  rw [r1, iI_sub]
  refine k_size (b9_1 hd.1 (by decide)) (k_yM hu' ?_)
  rw [r2, iI_sub]
  refine k_size (b9_1 hd.2 (by decide)) ?_
  have e : iI ((bl x gx i - tX (Px st k) (Py st k) (wy f i)).natAbs : Int) ≤ iI ((bl y gy i - tY (Px st k) (Py st k) (wy f i)).natAbs : Int) ↔ ((bl x gx i - tX (Px st k) (Py st k) (wy f i)).natAbs : Int) ≤ ((bl y gy i - tY (Px st k) (Py st k) (wy f i)).natAbs : Int) := by
    have d1 : -210400 ≤ bl x gx i - tX (Px st k) (Py st k) (wy f i) ∧ bl x gx i - tX (Px st k) (Py st k) (wy f i) ≤ 210400 := hd.1
    have d2 : -210400 ≤ bl y gy i - tY (Px st k) (Py st k) (wy f i) ∧ bl y gy i - tY (Px st k) (Py st k) (wy f i) ≤ 210400 := hd.2
    exact iI_le ⟨by omega, by omega⟩ ⟨by omega, by omega⟩
  unfold gp at h
  refine ⟨fun q => ?_, fun q => ?_⟩
  · rw [if_neg (Int.not_lt.mpr (e.mp q))] at h; exact h
  · rw [if_pos (Int.not_le.mp (fun z => q (e.mpr z)))] at h; exact h
def seX (st : St) (f : Nat → Int × Int) (k : Nat) : Nat → Int := fun i => tX (Px st k) (Py st k) (wy f i)
def seY (st : St) (f : Nat → Int × Int) (k : Nat) : Nat → Int := fun i => tY (Px st k) (Py st k) (wy f i)
theorem GB_of {st mt : St} {j0 j1 : Option St} (hl : LR st j0 j1 mt) {f : Nat → Int × Int} (hf : FB f) {k k' : Nat} (hk : k < 8) (hk' : k' < 8) {p : Int} {w : Nat} (hp : 0 ≤ p ∧ p ≤ 200) (hw : w < 24) : GB (Px st k) (Py st k) (Gx (Px st k) (Py st k) (wy f 1) p w) (Gy (Px st k) (Py st k) (wy f 1) p w) (seX st f k') (seY st f k') := by
  have a := P_b hl hk
  have b := P_b hl hk'
  have c := G_b a.1 a.2 hp (wy_b hf 1) hw
  exact ⟨a.1, a.2, c.1, c.2, fun i => tXY_b (wy_b hf i) (b := 1000) (by decide) b.1 b.2⟩
theorem lp_caughtM {st mt : St} {j0 j1 : Option St} (hl : LR st j0 j1 mt) {f : Nat → Int × Int} {x y gx gy : Int} {k : Nat} (hk : k < 8) (hg : GB x y gx gy (seX st f k) (seY st f k)) {post : Int32 → St → Prop} : ∀ (n i : Nat), i + n = 61 → ∀ u, MR mt u f → MT u x y gx gy → (∀ u', MR mt u' f → FR [1, 2] [] u u' → post (iI (tcf (gp x y gx gy (seX st f k) (seY st f k)) (gA st 1 2).toInt n i)) u') → ∃ m, wp_X11_caughtOf_L10 post (fun t11 => post (-6) t11) (iI (k : Int)) m u (iI (i : Int)) := by
  intro n
  induction n with
  | zero =>
    intro i hi u hm hu h
    refine ⟨1, fun _ => h u hm (FR.rf _ _ _), fun q => absurd ?_ q⟩
    rw [show i = 61 by omega]
    decide
  | succ n ih =>
    intro i hi u hm hu h
    have hgi := hg.g (i := i) (by omega)
    have c1 : ¬ (60 : Int32) < iI (i : Int) := by
      intro q
      have := (iI_lt (a := 60) ⟨by decide, by decide⟩ ⟨by omega, by omega⟩).mp q
      omega
    have e1 : iI (i : Int) + 1 = iI ((i + 1 : Nat) : Int) := iI_add _ 1
    have mv := tu_f u (Px st k) (Py st k) (wy f i)
    have hm' := tu_go hm (x := Px st k) (y := Py st k) (w := wy f i)
    have hR : gA (tu u (Px st k) (Py st k) (wy f i)) 3 2 = iI (gA st 1 2).toInt := by
      rw [hm'.1.2 3 (by decide), ← hl.1.2.2.2.2.2.1 2 (by decide) (by decide)]
      exact iI_of _
    have e2 : gA (tu u (Px st k) (Py st k) (wy f i)) 3 (2 : Int32).toNatClampNeg < iI (gp x y gx gy (seX st f k) (seY st f k) i) ↔ (gA st 1 2).toInt < gp x y gx gy (seX st f k) (seY st f k) i := by
      rw [show (2 : Int32).toNatClampNeg = 2 from rfl, hR]
      exact iI_lt (B31_of _) ⟨by omega, by omega⟩
    have hu' := hu.fr mv
    by_cases q : (gA st 1 2).toInt < gp x y gx gy (seX st f k) (seY st f k) i
    · have h' : ∀ u', MR mt u' f → FR [1, 2] [] (tu u (Px st k) (Py st k) (wy f i)) u' → post (iI (tcf (gp x y gx gy (seX st f k) (seY st f k)) (gA st 1 2).toInt n (i + 1))) u' := by
        intro u' a b
        have h2 := h u' a (mv.tr b)
        unfold tcf at h2
        rw [if_pos q] at h2
        exact h2
      obtain ⟨m, hmm⟩ := ih (i + 1) (by omega) _ hm' hu' h'
      refine ⟨m + 1, fun w => absurd w c1, fun _ => k_far hl hm hu hk hg (by omega) ⟨fun _ x9 e9 => ?_, fun w => absurd (e2.mpr q) w⟩⟩
      rw [e9, e1]
      exact hmm
    · have h' : post (iI (i : Int)) (tu u (Px st k) (Py st k) (wy f i)) := by
        have h2 := h _ hm' mv
        unfold tcf at h2
        rw [if_neg q] at h2
        exact h2
      exact ⟨1, fun w => absurd w c1, fun _ => k_far hl hm hu hk hg (by omega) ⟨fun w => absurd (e2.mp w) q, fun _ => h'⟩⟩
/-- the tick at which one catches another's throw -/
def tc (st : St) (f : Nat → Int × Int) (k k' : Nat) (p : Int) (w : Nat) : Int := tcf (gp (Px st k) (Py st k) (Gx (Px st k) (Py st k) (wy f 1) p w) (Gy (Px st k) (Py st k) (wy f 1) p w) (seX st f k') (seY st f k')) (gA st 1 2).toInt 60 1
theorem k_caughtM {st mt u : St} {j0 j1 : Option St} (hl : LR st j0 j1 mt) {f : Nat → Int × Int} (hm : MR mt u f) {k k' : Nat} (hk : k < 8) (hk' : k' < 8) {p : Int} {w : Nat} (hp : 0 ≤ p ∧ p ≤ 200) (hw : w < 24) {post : Int32 → St → Prop} (h : ∀ u', MR mt u' f → FR mT [] u u' → post (iI (tc st f k k' p w)) u') : wp_X11_caughtOf u (iI (k : Int)) (iI p) (iI (w : Int)) (iI (k' : Int)) post := by
  refine k_layThrow hl hm hk hp hw (fun u' h1 h2 h3 => ?_)
  exact lp_caughtM hl hk' (GB_of hl hm.2.1 hk hk' hp hw) 60 1 rfl u' h1 h3 (fun u2 a b => h u2 a (h2.tr (b.up (by decide) (by decide))))
theorem lp_seat {st : St} {f : Nat → Int × Int} {x y : Int} (hx : b9 x) (hy : b9 y) {post : St → Prop} : ∀ (n i : Nat), i + n = 61 → ∀ t, XR st t f → (∀ k, k < i → gB t 0 k = iL (tX x y (wy f k)) ∧ gB t 1 k = iL (tY x y (wy f k))) → (∀ t', XR st t' f → FR [] [] t t' → XB t' (fun i => tX x y (wy f i)) (fun i => tY x y (wy f i)) → post t') → ∃ m, wp_X8_followSeat_L3 post (fun t12 => post t12) (iI x) (iI y) m t (iI (i : Int)) := by
  intro n
  induction n with
  | zero =>
    intro i hi t ht hb h
    refine ⟨1, fun _ => h t ht (FR.rf _ _ _) (fun k hk => hb k (by omega)), fun q => absurd ?_ q⟩
    rw [show i = 61 by omega]
    decide
  | succ n ih =>
    intro i hi t ht hb h
    have c1 : ¬ (60 : Int32) < iI (i : Int) := by
      intro q
      have := (iI_lt (a := 60) ⟨by decide, by decide⟩ ⟨by omega, by omega⟩).mp q
      omega
    have e1 : iI (i : Int) + 1 = iI ((i + 1 : Nat) : Int) := iI_add _ 1
    have hin : vp_in (iI (i : Int)) 61 := iI_in (by omega) (by omega) (by decide)
    have eb : ∀ z : Int, b9 z → (iI z).toInt64 = iL z := fun z hz => iI_L ⟨by have := hz.1; omega, by have := hz.2; omega⟩
    have fr : FR [] [] t (sB (sB t 0 (vp_updL (gB t 0) i (iL (tX x y (wy f i))))) 1 (vp_updL (gB t 1) i (iL (tY x y (wy f i))))) := (FR.sB 0 _).tr (FR.sB 1 _)
    obtain ⟨m, hm⟩ := ih (i + 1) (by omega) (sB (sB t 0 (vp_updL (gB t 0) i (iL (tX x y (wy f i))))) 1 (vp_updL (gB t 1) i (iL (tY x y (wy f i))))) (ht.go (fr.up (by decide) (by decide))) (fun k hk => by
      show vp_updL (gB t 0) i (iL (tX x y (wy f i))) k = _ ∧ vp_updL (gB t 1) i (iL (tY x y (wy f i))) k = _
      by_cases e : k = i
      · rw [e, pk_uLs, pk_uLs]; exact ⟨rfl, rfl⟩
      · rw [pk_uLn e, pk_uLn e]; exact hb k (by omega)) (fun t' a b c => h t' a (fr.tr b) c)
    refine ⟨m + 1, fun w => absurd w c1, fun _ => k_wayX ht (by omega) ?_⟩
    rw [eb x hx, eb y hy]
    refine k_turnX (wy_b ht.2.1 i) hx hy ⟨hin, k_turnY (wy_b ht.2.1 i) hx hy ⟨hin, fun x10 e10 => ?_⟩⟩
    rw [e10, e1, cl_n (show i ≤ 61 by omega) (by decide)]
    exact hm
theorem k_seat {st mt t : St} {j0 j1 : Option St} (hl : LR st j0 j1 mt) {f : Nat → Int × Int} (ht : XR st t f) {k : Nat} (hk : k < 8) {post : St → Prop} (h : ∀ t', XR st t' f → FR [] [] t t' → XB t' (seX st f k) (seY st f k) → post t') : wp_X8_followSeat t (gA t 6 (iI (k : Int)).toNatClampNeg) (gA t 7 (iI (k : Int)).toNatClampNeg) post := by
  rw [cl_n (show k ≤ 8 by omega) (by decide), (one_X ht k).1, (one_X ht k).2]
  exact lp_seat (b9_1 (P_b hl hk).1 (by decide)) (b9_1 (P_b hl hk).2 (by decide)) 61 0 rfl t ht (fun _ z => absurd z (Nat.not_lt_zero _)) h
theorem k_reach {st t : St} {f : Nat → Int × Int} (ht : XR st t f) {post : Int32 → Prop} (h : post (iI (gA st 1 2).toInt)) : wp_X7_reach t post := by
  unfold wp_X7_reach
  rw [show (2 : Int32).toNatClampNeg = 2 from rfl, ht.1.2 1 (by decide), iI_of (gA st 1 2)]
  exact h
theorem o_caught (st mt : St) (j0 j1 : Option St) (a1 a2 a3 a4 : Int32) (h : LR st j0 j1 mt) : wp_X10_caught st a1 a2 a3 a4 (fun r st' => wp_X11_caught mt a1 a2 a3 a4 (fun r' mt' => r = r' ∧ LR st' j0 j1 mt')) := by
  refine k_hasX h (br' (fun c => k_isM h (br' (fun _ => ⟨rfl, h⟩) (fun z => absurd z c))) (fun c => ?_))
  refine k_hasX h (br (fun d => ?_) (fun d => k_isM h (br' (fun z => absurd c z) (fun _ => k_isM h (br (fun z => absurd z d) (fun _ => ⟨rfl, h⟩))))))
  refine k_throwX (br (fun e => ?_) (fun e => k_isM h (br' (fun z => absurd c z) (fun _ => k_isM h (br (fun _ => k_throwM (br (fun z => absurd z e) (fun _ => ⟨rfl, h⟩))) (fun z => absurd d z))))))
  obtain ⟨f, rx, rm⟩ := go_of h
  have pre : ∀ post : Int32 → St → Prop, wp_X11_layTurns mt (fun t11 => wp_X11_caughtOf t11 a1 a2 a3 a4 (fun r12 t13 => post r12 t13)) → wp_X11_caught mt a1 a2 a3 a4 post := fun post H => k_isM h (br' (fun z => absurd c z) (fun _ => k_isM h (br (fun _ => k_throwM (br (fun _ => H) (fun z => absurd e z))) (fun z => absurd d z))))
  obtain ⟨k, hk, ek⟩ := one_k h c
  obtain ⟨k', hk', ek'⟩ := one_k h d
  obtain ⟨p, w, hp, hw, ep, ew⟩ := throw_k e
  clear c d e
  subst ek ek' ep ew
  have hin : vp_in (iI (k : Int)) 8 := iI_in (by omega) (by omega) (by decide)
  have hin' : vp_in (iI (k' : Int)) 8 := iI_in (by omega) (by omega) (by decide)
  refine rx _ (fun t ht => ⟨hin', hin', k_seat h ht hk' (fun t1 ht1 _ hB => ⟨hin, hin, k_launch h ht1 hk hp hw (fun t2 ht2 _ eB hT => ?_)⟩)⟩)
  have hB2 : XB t2 (seX st f k') (seY st f k') := by
    unfold XB
    rw [eB]
    exact hB
  refine k_reach ht2 (k_tickC hT hB2 (GB_of h ht.2.1 hk hk' hp hw) (B31_of _) ?_)
  exact pre _ (rm _ (fun u hu => k_caughtM h hu hk hk' hp hw (fun u' hu' _ => ⟨rfl, h.fr ht2.1 hu'.1⟩)))
