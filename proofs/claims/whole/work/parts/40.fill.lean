/-! rows of catches -/
def row (C : Nat → Bool) : Nat → Nat
  | 0 => 0
  | n + 1 => row C n + (C n).toNat * 2 ^ n
theorem row_lt (C : Nat → Bool) : ∀ n, row C n < 2 ^ n := by
  intro n
  induction n with
  | zero => exact Nat.one_pos
  | succ n ih =>
    show row C n + (C n).toNat * 2 ^ n < 2 ^ (n + 1)
    rw [Nat.pow_succ]
    cases C n
    · show row C n + 0 * 2 ^ n < _
      omega
    · show row C n + 1 * 2 ^ n < _
      omega
theorem row_bit (C : Nat → Bool) : ∀ n w, w < n → row C n / 2 ^ w % 2 = (C w).toNat := by
  intro n
  induction n with
  | zero => intro w h; exact absurd h (Nat.not_lt_zero _)
  | succ n ih =>
    intro w h
    show (row C n + (C n).toNat * 2 ^ n) / 2 ^ w % 2 = _
    have hp : 0 < 2 ^ w := Nat.two_pow_pos w
    by_cases q : w = n
    · rw [q, Nat.add_mul_div_right _ _ (Nat.two_pow_pos n), Nat.div_eq_of_lt (row_lt C n)]
      cases C n <;> rfl
    · have e : 2 ^ n = 2 ^ (n - w - 1) * 2 * 2 ^ w := by
        rw [← Nat.pow_succ, ← Nat.pow_add]
        congr 1
        omega
      rw [e, ← Nat.mul_assoc, Nat.add_mul_div_right _ _ hp, ← Nat.mul_assoc, Nat.add_mul_mod_self_right]
      exact ih w (by omega)
theorem shl1 : ∀ w : Nat, w < 24 → (1 : Int32) <<< (iI (w : Int) &&& 31) = nI (2 ^ w) := by decide +kernel
theorem or_row (C : Nat → Bool) {w : Nat} (hw : w < 24) (hc : C w = true) : nI (row C w) ||| ((1 : Int32) <<< (iI (w : Int) &&& 31)) = nI (row C (w + 1)) := by
  rw [shl1 w hw, nI_or]
  have h := Nat.two_pow_add_eq_or_of_lt (row_lt C w) 1
  rw [Nat.mul_one] at h
  rw [Nat.or_comm, ← h]
  show _ = nI (row C w + (C w).toNat * 2 ^ w)
  rw [hc]
  show _ = nI (row C w + 1 * 2 ^ w)
  rw [Nat.one_mul, Nat.add_comm]
theorem no_row (C : Nat → Bool) {w : Nat} (hc : C w = false) : row C (w + 1) = row C w := by
  show row C w + (C w).toNat * 2 ^ w = _
  rw [hc]
  show row C w + 0 * 2 ^ w = _
  rw [Nat.zero_mul, Nat.add_zero]
theorem tcf_b {G : Nat → Int} {R : Int} : ∀ n i, tcf G R n i = -6 ∨ (0 ≤ tcf G R n i ∧ tcf G R n i ≤ i + n) := by
  intro n
  induction n with
  | zero => intro i; exact .inl rfl
  | succ n ih =>
    intro i
    unfold tcf
    by_cases q : R < G i
    · rw [if_pos q]
      have := ih (i + 1)
      omega
    · rw [if_neg q]
      omega
/-- whether a throw is caught -/
def Ct (st : St) (f : Nat → Int × Int) (k k' p w : Nat) : Bool := decide (0 ≤ tc st f k k' (p : Int) w)
theorem tc_b {st : St} {f : Nat → Int × Int} {k k' : Nat} {p : Int} {w : Nat} : tc st f k k' p w = -6 ∨ (0 ≤ tc st f k k' p w ∧ tc st f k k' p w ≤ 61) := tcf_b 60 1
/-- the class's state while it fills its rows -/
def XF (st : St) (f : Nat → Int × Int) (k k' : Nat) (t : St) : Prop := XR st t f ∧ (∃ gx gy : Int, XT t (Px st k) (Py st k) (tX (Px st k) (Py st k) (wy f 1) - Px st k) (tY (Px st k) (Py st k) (wy f 1) - Py st k) gx gy) ∧ XB t (seX st f k') (seY st f k')
theorem XF.go {st t : St} {f : Nat → Int × Int} {k k' : Nat} (h : XF st f k k' t) (v : Nat → Int32) : XF st f k k' (sA t 10 v) := ⟨h.1.go (FR.sA 10 v (by decide)), h.2.1, h.2.2⟩
theorem lp_fillI {st mt : St} {j0 j1 : Option St} (hl : LR st j0 j1 mt) {f : Nat → Int × Int} (hf : FB f) {k k' : Nat} (hk : k < 8) (hk' : k' < 8) {p : Nat} (hp : p < 62) {post : St → Prop} {K : St → Int32 → Prop} : ∀ (n w : Nat), w + n = 24 → ∀ t : St, XF st f k k' t → (∀ t' : St, XF st f k k' t' → FR [] [] t t' → K t' (nI (row (Ct st f k k' p) 24))) → wp_X1_fill_L19 post K (iI (gA st 1 2).toInt) (iI (p : Int)) (n + 1) t (nI (row (Ct st f k k' p) w)) (iI (w : Int)) := by
  intro n
  induction n with
  | zero =>
    intro w hw t h1 h
    refine ⟨fun _ => ?_, fun q => absurd ?_ q⟩
    · rw [show w = 24 by omega]
      exact h t h1 (FR.rf _ _ _)
    · rw [show w = 24 by omega]
      decide
  | succ n ih =>
    intro w hw t h1 h
    have c1 : ¬ (24 : Int32) ≤ iI (w : Int) := by
      intro q
      have := (iI_le (a := 24) ⟨by decide, by decide⟩ ⟨by omega, by omega⟩).mp q
      omega
    have e1 : iI (w : Int) + 1 = iI ((w + 1 : Nat) : Int) := iI_add _ 1
    have tb := tc_b (st := st) (f := f) (k := k) (k' := k') (p := (p : Int)) (w := w)
    obtain ⟨hx, ⟨gx, gy, hT⟩, hB⟩ := h1
    refine ⟨fun q => absurd q c1, fun _ => k_anew hx hT (p := (p : Int)) (by omega) (by omega) (fun t' hx' hF eB hT' => ?_)⟩
    have hB' : XB t' (seX st f k') (seY st f k') := by
      unfold XB
      rw [eB]
      exact hB
    refine k_tickC hT' hB' (GB_of hl hf hk hk' (by omega) (by omega)) (B31_of _) ?_
    have e6 : iI (tc st f k k' (p : Int) w) = (-6) ↔ tc st f k k' (p : Int) w = -6 := iI_eq (b := -6) ⟨by omega, by omega⟩ ⟨by decide, by decide⟩
    have nx := ih (w + 1) (by omega) t' ⟨hx', ⟨_, _, hT'⟩, hB'⟩ (fun t2 a b => h t2 a (hF.tr b))
    refine ⟨fun q x13 e13 => ?_, fun q x15 e15 x17 e17 => ?_⟩
    · have q2 := e6.mp q
      have hc : Ct st f k k' p w = false := decide_eq_false (by omega)
      rw [no_row _ hc] at nx
      rw [e13, e1]
      exact nx
    · have q2 : ¬ tc st f k k' (p : Int) w = -6 := fun z => q (e6.mpr z)
      have hc : Ct st f k k' p w = true := decide_eq_true (by omega)
      rw [e15, or_row (Ct st f k k' p) (by omega) hc, e17, e1]
      exact nx
theorem lp_fill {st mt : St} {j0 j1 : Option St} (hl : LR st j0 j1 mt) {f : Nat → Int × Int} (hf : FB f) {k k' : Nat} (hk : k < 8) (hk' : k' < 8) {post : St → Prop} : ∀ (n p : Nat), p + n = 62 → ∀ t : St, XF st f k k' t → (∀ q, q < p → gA t 10 q = nI (row (Ct st f k k' q) 24)) → (∀ t' : St, XF st f k k' t' → (∀ q, q < 62 → gA t' 10 q = nI (row (Ct st f k k' q) 24)) → post t') → wp_X1_fill_L3 post (fun t23 => post t23) (iI (gA st 1 2).toInt) (n + 1) t (iI (p : Int)) := by
  intro n
  induction n with
  | zero =>
    intro p hp t h1 h2 h
    refine ⟨fun _ => h t h1 (fun q hq => h2 q (by omega)), fun q => absurd ?_ q⟩
    rw [show p = 62 by omega]
    decide
  | succ n ih =>
    intro p hp t h1 h2 h
    have c1 : ¬ (62 : Int32) ≤ iI (p : Int) := by
      intro q
      have := (iI_le (a := 62) ⟨by decide, by decide⟩ ⟨by omega, by omega⟩).mp q
      omega
    have e1 : iI (p : Int) + 1 = iI ((p + 1 : Nat) : Int) := iI_add _ 1
    have hin : vp_in (iI (p : Int)) 62 := iI_in (by omega) (by omega) (by decide)
    refine ⟨fun q => absurd q c1, fun _ => ⟨25, lp_fillI hl hf hk hk' (by omega) 24 0 rfl t h1 (fun t' a b => ⟨hin, fun x21 e21 => ?_⟩)⟩⟩
    rw [e21, e1, cl_n (show p ≤ 62 by omega) (by decide)]
    refine ih (p + 1) (by omega) _ (a.go _) (fun q hq => ?_) h
    show upd (gA t' 10) p (nI (row (Ct st f k k' p) 24)) q = _
    by_cases e : q = p
    · rw [e, upd_s]
    · rw [upd_n _ _ e, b.2 10 (fun z => nomatch z)]
      exact h2 q (by omega)
theorem k_fill {st mt t : St} {j0 j1 : Option St} (hl : LR st j0 j1 mt) {f : Nat → Int × Int} (hf : FB f) {k k' : Nat} (hk : k < 8) (hk' : k' < 8) (ht : XF st f k k' t) {post : St → Prop} (h : ∀ t' : St, XF st f k k' t' → (∀ q, q < 62 → gA t' 10 q = nI (row (Ct st f k k' q) 24)) → post t') : wp_X1_fill t (iI (gA st 1 2).toInt) post := ⟨63, lp_fill hl hf hk hk' 62 0 rfl t ht (fun _ z => absurd z (Nat.not_lt_zero _)) h⟩
/-- the reference's state while it fills its table -/
def MF (st : St) (f : Nat → Int × Int) (k k' : Nat) (mt u : St) (n : Nat) : Prop := MR mt u f ∧ ∀ q, q < n → gA u 19 q = nI (Ct st f k k' (q / 24) (q % 24)).toNat
theorem ix24 {p w : Nat} (hp : p < 62) (hw : w < 24) : (24 * iI (p : Int)) + iI (w : Int) = iI ((24 * p + w : Nat) : Int) := by
  rw [show (24 : Int32) * iI (p : Int) = iI (24 * (p : Int)) from iI_mul 24 _, iI_add]
  congr 1
theorem lp_mfI {st mt : St} {j0 j1 : Option St} (hl : LR st j0 j1 mt) {f : Nat → Int × Int} {k k' : Nat} (hk : k < 8) (hk' : k' < 8) {p : Nat} (hp : p < 62) {post : Int32 → St → Prop} {K : St → Prop} : ∀ (n w : Nat), w + n = 24 → ∀ u : St, MF st f k k' mt u (24 * p + w) → (∀ u' : St, MF st f k k' mt u' (24 * p + 24) → K u') → wp_X11_all_L50 post K (iI (k : Int)) (iI (k' : Int)) (iI (p : Int)) (n + 1) u (iI (w : Int)) := by
  intro n
  induction n with
  | zero =>
    intro w hw u h1 h
    rw [show w = 24 by omega] at h1
    refine ⟨fun _ => h u h1, fun q => absurd ?_ q⟩
    rw [show w = 24 by omega]
    decide
  | succ n ih =>
    intro w hw u h1 h
    have c1 : ¬ (24 : Int32) ≤ iI (w : Int) := by
      intro q
      have := (iI_le (a := 24) ⟨by decide, by decide⟩ ⟨by omega, by omega⟩).mp q
      omega
    have e1 : iI (w : Int) + 1 = iI ((w + 1 : Nat) : Int) := iI_add _ 1
    have tb := tc_b (st := st) (f := f) (k := k) (k' := k') (p := (p : Int)) (w := w)
    have hin : vp_in (iI ((24 * p + w : Nat) : Int)) 1488 := iI_in (by omega) (by omega) (by decide)
    have cl : (iI ((24 * p + w : Nat) : Int)).toNatClampNeg = 24 * p + w := cl_n (n := 1488) (by omega) (by decide)
    have e0 : iI (tc st f k k' (p : Int) w) < 0 ↔ tc st f k k' (p : Int) w < 0 := iI_lt (b := 0) ⟨by omega, by omega⟩ ⟨by decide, by decide⟩
    have nx : ∀ (u' : St) (v : Int32), MR mt u' f → FR mT [] u u' → v = nI (Ct st f k k' p w).toNat → wp_X11_all_L50 post K (iI (k : Int)) (iI (k' : Int)) (iI (p : Int)) (n + 1) (sA u' 19 (upd (gA u' 19) (24 * p + w) v)) (iI ((w + 1 : Nat) : Int)) := by
      intro u' v a b ev
      refine ih (w + 1) (by omega) _ ⟨a.go (FR.sA 19 _ (by decide)), fun q hq => ?_⟩ h
      show upd (gA u' 19) (24 * p + w) v q = _
      by_cases e : q = 24 * p + w
      · rw [e, upd_s, ev, show (24 * p + w) / 24 = p by omega, show (24 * p + w) % 24 = w by omega]
      · rw [upd_n _ _ e, b.2 19 (fun z => nomatch z)]
        exact h1.2 q (by omega)
    refine ⟨fun q => absurd q c1, fun _ => k_caughtM hl h1.1 hk hk' (p := (p : Int)) (by omega) (by omega) (fun u' a b => ?_)⟩
    rw [ix24 hp (by omega), cl]
    refine ⟨fun q => ⟨hin, fun x21 e21 => ?_⟩, fun q => ⟨hin, fun x23 e23 => ?_⟩⟩
    · have q2 := e0.mp q
      have hc : Ct st f k k' p w = false := decide_eq_false (by omega)
      rw [e21, e1]
      exact nx u' _ a b (by rw [hc]; rfl)
    · have q2 : ¬ tc st f k k' (p : Int) w < 0 := fun z => q (e0.mpr z)
      have hc : Ct st f k k' p w = true := decide_eq_true (by omega)
      rw [e23, e1]
      exact nx u' _ a b (by rw [hc]; rfl)
theorem lp_mf {st mt : St} {j0 j1 : Option St} (hl : LR st j0 j1 mt) {f : Nat → Int × Int} {k k' : Nat} (hk : k < 8) (hk' : k' < 8) {post : Int32 → St → Prop} {K : St → Prop} (h : ∀ u' : St, MF st f k k' mt u' 1488 → K u') : ∀ (n p : Nat), p + n = 62 → ∀ u : St, MF st f k k' mt u (24 * p) → wp_X11_all_L40 post K (iI (k : Int)) (iI (k' : Int)) (n + 1) u (iI (p : Int)) := by
  intro n
  induction n with
  | zero =>
    intro p hp u h1
    rw [show p = 62 by omega] at h1 ⊢
    exact ⟨fun _ => h u h1, fun q => absurd (by decide) q⟩
  | succ n ih =>
    intro p hp u h1
    have c1 : ¬ (61 : Int32) < iI (p : Int) := by
      intro q
      have := (iI_lt (a := 61) ⟨by decide, by decide⟩ ⟨by omega, by omega⟩).mp q
      omega
    have e1 : iI (p : Int) + 1 = iI ((p + 1 : Nat) : Int) := iI_add _ 1
    refine ⟨fun q => absurd q c1, fun _ => ⟨25, lp_mfI hl hk hk' (by omega) 24 0 rfl u h1 (fun u' a x26 e26 => ?_)⟩⟩
    rw [e26, e1]
    exact ih (p + 1) (by omega) u' a
