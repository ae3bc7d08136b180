/-! the way that is seen -/
theorem sg_A {z : Int} (h : B63 z) : (iL z >>> ((63 : Int32).toInt64 &&& 63)).toInt = z >>> 63 := by
  show (iL z >>> ((63 : Int32).toInt64 &&& 63)).toBitVec.toInt = _
  rw [Int64.toBitVec_shiftRight, BitVec.toInt_sshiftRight', show (((63 : Int32).toInt64 &&& 63).toBitVec.smod 64).toNat = 63 from by decide +kernel]
  show (iL z).toInt >>> 63 = _
  rw [iL_t h]
theorem sg_B {z : Int} (h0 : 0 < z) (h1 : z ≤ 9223372036854775807) : ((-iL z).toUInt64 >>> ((63 : Int32).toInt64.toUInt64 &&& Int64.toUInt64 63)).toInt64 = 1 := by
  apply Int64.toBitVec_inj.mp
  apply BitVec.eq_of_toNat_eq
  show ((-iL z).toUInt64 >>> ((63 : Int32).toInt64.toUInt64 &&& Int64.toUInt64 63)).toNat = 1
  rw [UInt64.toNat_shiftRight, show ((63 : Int32).toInt64.toUInt64 &&& Int64.toUInt64 63).toNat % 64 = 63 from by decide +kernel, Nat.shiftRight_eq_div_pow]
  show (-iL z).toBitVec.toNat / 2 ^ 63 = 1
  have e : (-iL z).toBitVec.toInt = -z := by
    rw [iL_neg]
    exact iL_t ⟨by omega, by omega⟩
  rw [BitVec.toInt_eq_toNat_cond] at e
  have hl := (-iL z).toBitVec.isLt
  by_cases q : 2 * (-iL z).toBitVec.toNat < 2 ^ 64
  · rw [if_pos q] at e
    omega
  · rw [if_neg q] at e
    omega
theorem k_sig {z : Int} (h1 : -9000000000000000000 ≤ z ∧ z ≤ 9000000000000000000) {post : Int32 → Prop} (h : post (iI (sg z))) : wp_J13_signum_95d88 (iL z) post := by
  show post (((iL z >>> ((63 : Int32).toInt64 &&& 63)) ||| ((-iL z).toUInt64 >>> ((63 : Int32).toInt64.toUInt64 &&& Int64.toUInt64 63)).toInt64).toInt32)
  have hA := sg_A (z := z) ⟨by omega, by omega⟩
  rw [Int.shiftRight_eq_div_pow] at hA
  rcases sg_c z with ⟨q, e⟩ | ⟨q, e⟩ | ⟨q, e⟩
  · rw [e] at h
    rw [show (iL z >>> ((63 : Int32).toInt64 &&& 63)) = 0 from Int64.toInt_inj.mp (by rw [hA]; show z / 9223372036854775808 = 0; omega), sg_B q (by omega)]
    exact h
  · rw [e] at h
    rw [show (iL z >>> ((63 : Int32).toInt64 &&& 63)) = -1 from Int64.toInt_inj.mp (by rw [hA]; show z / 9223372036854775808 = -1; omega), Int64.neg_one_or]
    exact h
  · rw [e] at h
    rw [q]
    exact h
theorem minL {a b : Int} (ha : b9 a) (hb : b9 b) : (if iL b < iL a then iL b else iL a) = iL (if b < a then b else a) := by
  have e : (iL b < iL a) ↔ b < a := iL_lt ⟨by have := hb.1; omega, by have := hb.2; omega⟩ ⟨by have := ha.1; omega, by have := ha.2; omega⟩
  by_cases q : b < a
  · rw [if_pos (e.mpr q), if_pos q]
  · rw [if_neg (fun w => q (e.mp w)), if_neg q]
def XV (t : St) (vx vy : Nat → Int) : Prop := ∀ k, k ≤ 20 → gB t 0 k = iL (vx k) ∧ gB t 1 k = iL (vy k)
def MV (u : St) (vx vy : Nat → Int) : Prop := ∀ k, k ≤ 20 → gA u 20 k = iI (vx k) ∧ gA u 21 k = iI (vy k)
def VB (vx vy : Nat → Int) : Prop := ∀ k, k ≤ 20 → (-500000 ≤ vx k ∧ vx k ≤ 500000) ∧ (-500000 ≤ vy k ∧ vy k ≤ 500000)
def sd (vx vy : Nat → Int) (a b c : Nat) : Int := cr3 (vx a) (vy a) (vx b) (vy b) (vx c) (vy c)
theorem sd_b {vx vy : Nat → Int} (h : VB vx vy) {a b c : Nat} (ha : a ≤ 20) (hb : b ≤ 20) (hc : c ≤ 20) : -2000000000000 ≤ sd vx vy a b c ∧ sd vx vy a b c ≤ 2000000000000 := by
  have h1 := h a ha
  have h2 := h b hb
  have h3 := h c hc
  have m1 := mul_b (a := vx b - vx a) (b := vy c - vy a) (m := 1000000) (n := 1000000) (by omega) (by omega) (by decide) (by decide)
  have m2 := mul_b (a := vy b - vy a) (b := vx c - vx a) (m := 1000000) (n := 1000000) (by omega) (by omega) (by decide) (by decide)
  unfold sd cr3
  omega
theorem k_sideX {t : St} {vx vy : Nat → Int} (ht : XV t vx vy) {i p : Nat} (hi : i ≤ 19) (hp : p ≤ 20) {post : Int64 → Prop} (h : post (iL (sd vx vy i (i + 1) p))) : wp_X8_side t (iI (i : Int)) (iI (p : Int)) post := by
  have e1 : iI (i : Int) + 1 = iI ((i + 1 : Nat) : Int) := iI_add _ 1
  have n0 : vp_in (iI (i : Int)) 61 := iI_in (by omega) (by omega) (by decide)
  have n1 : vp_in (iI ((i + 1 : Nat) : Int)) 61 := iI_in (by omega) (by omega) (by decide)
  have n2 : vp_in (iI (p : Int)) 61 := iI_in (by omega) (by omega) (by decide)
  unfold wp_X8_side
  rw [e1, cl_n (show i ≤ 61 by omega) (by decide), cl_n (show i + 1 ≤ 61 by omega) (by decide), cl_n (show p ≤ 61 by omega) (by decide), (ht i (by omega)).1, (ht i (by omega)).2, (ht (i + 1) (by omega)).1, (ht (i + 1) (by omega)).2, (ht p hp).1, (ht p hp).2]
  refine ⟨n1, n0, n2, n0, n1, n0, n2, n0, ?_⟩
  rw [iL_sub, iL_sub, iL_sub, iL_sub, iL_mul, iL_mul, iL_sub]
  exact h
theorem k_sideM {u : St} {vx vy : Nat → Int} (hu : MV u vx vy) (hv : VB vx vy) {a b c : Nat} (ha : a ≤ 20) (hb : b ≤ 20) (hc : c ≤ 20) {post : Int32 → Prop} (h : post (iI (sg (sd vx vy a b c)))) : wp_X11_side u (iI (a : Int)) (iI (b : Int)) (iI (c : Int)) post := by
  have n0 : vp_in (iI (a : Int)) 21 := iI_in (by omega) (by omega) (by decide)
  have n1 : vp_in (iI (b : Int)) 21 := iI_in (by omega) (by omega) (by decide)
  have n2 : vp_in (iI (c : Int)) 21 := iI_in (by omega) (by omega) (by decide)
  have h1 := hv a ha
  have h2 := hv b hb
  have h3 := hv c hc
  have sb := sd_b hv ha hb hc
  have lz : ∀ z : Int, -1000000 ≤ z ∧ z ≤ 1000000 → (iI z).toInt64 = iL z := fun z hz => iI_L ⟨by omega, by omega⟩
  refine ⟨n1, n0, n2, n0, n1, n0, n2, n0, fun x1 f1 => ?_⟩
  rw [cl_n (show a ≤ 61 by omega) (by decide), cl_n (show b ≤ 61 by omega) (by decide), cl_n (show c ≤ 61 by omega) (by decide), (hu a ha).1, (hu a ha).2, (hu b hb).1, (hu b hb).2, (hu c hc).1, (hu c hc).2, iI_sub, iI_sub, iI_sub, iI_sub, lz _ (by omega), lz _ (by omega), lz _ (by omega), lz _ (by omega), iL_mul, iL_mul, iL_sub] at f1
  have f2 : x1 = iL (sd vx vy a b c) := f1
  have l1 : iL (sd vx vy a b c) ≤ 0 ↔ sd vx vy a b c ≤ 0 := iL_le (b := 0) ⟨by omega, by omega⟩ ⟨by decide, by decide⟩
  have l2 : 0 ≤ iL (sd vx vy a b c) ↔ 0 ≤ sd vx vy a b c := iL_le (a := 0) ⟨by decide, by decide⟩ ⟨by omega, by omega⟩
  rw [f2, l1, l2]
  rcases sg_c (sd vx vy a b c) with ⟨q, e⟩ | ⟨q, e⟩ | ⟨q, e⟩
  · rw [e] at h
    exact ⟨fun z => absurd z (by omega), fun _ => h⟩
  · rw [e] at h
    exact ⟨fun _ => ⟨fun z => absurd z (by omega), fun _ => h⟩, fun z => absurd (by omega) z⟩
  · rw [e] at h
    exact ⟨fun _ => ⟨fun _ => h, fun z => absurd (by omega) z⟩, fun z => absurd (by omega) z⟩
theorem sg_m (a b : Int) : (0 < iI (sg a) * iI (sg b)) ↔ ¬ AC a b := by
  rcases sg_c a with ⟨q, e⟩ | ⟨q, e⟩ | ⟨q, e⟩ <;> rcases sg_c b with ⟨q', e'⟩ | ⟨q', e'⟩ | ⟨q', e'⟩ <;> rw [e, e'] <;> constructor <;> intro z <;> first | (intro w; omega) | exact absurd z (by decide) | decide | (exact absurd (by omega) z)
theorem bI_0 {c : Prop} [Decidable c] {post : Int32 → Prop} (h : post (bI c)) (hc : ¬ c) : post 0 := by
  rw [bI_eq.mpr hc] at h
  exact h
theorem bI_1 {c : Prop} [Decidable c] {post : Int32 → Prop} (h : post (bI c)) (hc : c) : post 1 := by
  rw [show bI c = 1 from if_pos hc] at h
  exact h
theorem k_across {t : St} {vx vy : Nat → Int} (ht : XV t vx vy) (hv : VB vx vy) {i j : Nat} (hi : i ≤ 19) (hj : j ≤ 19) {post : Int32 → Prop} (h : post (bI (AC (sd vx vy i (i + 1) j) (sd vx vy i (i + 1) (j + 1))))) : wp_X8_isAcross t (iI (i : Int)) (iI (j : Int)) post := by
  have e1 : iI (j : Int) + 1 = iI ((j + 1 : Nat) : Int) := iI_add _ 1
  have b1 := sd_b hv (a := i) (b := i + 1) (c := j) (by omega) (by omega) (by omega)
  have b2 := sd_b hv (a := i) (b := i + 1) (c := j + 1) (by omega) (by omega) (by omega)
  unfold wp_X8_isAcross
  rw [e1]
  refine k_sideX ht hi (by omega) (k_sig ⟨by omega, by omega⟩ (k_sideX ht hi (by omega) (k_sig ⟨by omega, by omega⟩ ?_)))
  rw [sg_m]
  exact ⟨fun z => bI_0 h z, fun z => bI_1 h (Classical.not_not.mp z)⟩
theorem k_spans0 {t : St} {vx vy : Nat → Int} (ht : XV t vx vy) (hv : VB vx vy) {i j : Nat} (hi : i ≤ 19) (hj : j ≤ 19) {post : Int32 → Prop} (h : post (bI (SPN (vx i) (vx (i + 1)) (vx j) (vx (j + 1))))) : wp_X8_spansMeet_c18 t (iI (i : Int)) (iI (j : Int)) post := by
  have e1 : iI (i : Int) + 1 = iI ((i + 1 : Nat) : Int) := iI_add _ 1
  have e2 : iI (j : Int) + 1 = iI ((j + 1 : Nat) : Int) := iI_add _ 1
  have n0 : vp_in (iI (i : Int)) 61 := iI_in (by omega) (by omega) (by decide)
  have n1 : vp_in (iI ((i + 1 : Nat) : Int)) 61 := iI_in (by omega) (by omega) (by decide)
  have n2 : vp_in (iI (j : Int)) 61 := iI_in (by omega) (by omega) (by decide)
  have n3 : vp_in (iI ((j + 1 : Nat) : Int)) 61 := iI_in (by omega) (by omega) (by decide)
  have h1 := (hv i (by omega)).1
  have h2 := (hv (i + 1) (by omega)).1
  have h3 := (hv j (by omega)).1
  have h4 := (hv (j + 1) (by omega)).1
  have bz : ∀ z : Int, -500000 ≤ z ∧ z ≤ 500000 → b9 z := fun z hz => ⟨by omega, by omega⟩
  unfold wp_X8_spansMeet_c18
  rw [e1, e2, cl_n (show i ≤ 61 by omega) (by decide), cl_n (show i + 1 ≤ 61 by omega) (by decide), cl_n (show j ≤ 61 by omega) (by decide), cl_n (show j + 1 ≤ 61 by omega) (by decide), (ht i (by omega)).1, (ht (i + 1) (by omega)).1, (ht j (by omega)).1, (ht (j + 1) (by omega)).1]
  generalize vx i = a at *
  generalize vx (i + 1) = b at *
  generalize vx j = c at *
  generalize vx (j + 1) = d at *
  rw [maxL (a := d) (b := c) (bz _ h4) (bz _ h3), minL (a := a) (b := b) (bz _ h1) (bz _ h2), maxL (a := b) (b := a) (bz _ h2) (bz _ h1), minL (a := c) (b := d) (bz _ h3) (bz _ h4)]
  have m1 : -500000 ≤ (if d < c then c else d) ∧ (if d < c then c else d) ≤ 500000 := by
    by_cases q : d < c
    · rw [if_pos q]; exact h3
    · rw [if_neg q]; exact h4
  have m2 : -500000 ≤ (if b < a then b else a) ∧ (if b < a then b else a) ≤ 500000 := by
    by_cases q : b < a
    · rw [if_pos q]; exact h2
    · rw [if_neg q]; exact h1
  have m3 : -500000 ≤ (if b < a then a else b) ∧ (if b < a then a else b) ≤ 500000 := by
    by_cases q : b < a
    · rw [if_pos q]; exact h1
    · rw [if_neg q]; exact h2
  have m4 : -500000 ≤ (if d < c then d else c) ∧ (if d < c then d else c) ≤ 500000 := by
    by_cases q : d < c
    · rw [if_pos q]; exact h4
    · rw [if_neg q]; exact h3
  have s1 : ((if d < c then c else d) < (if b < a then b else a)) ↔ (c < a ∧ c < b ∧ d < a ∧ d < b) := by
    by_cases q : d < c <;> by_cases q2 : b < a <;> simp only [q, q2, if_true, if_false] <;> omega
  have s2 : ((if b < a then a else b) < (if d < c then d else c)) ↔ (a < c ∧ a < d ∧ b < c ∧ b < d) := by
    by_cases q : d < c <;> by_cases q2 : b < a <;> simp only [q, q2, if_true, if_false] <;> omega
  rw [iL_lt ⟨by omega, by omega⟩ ⟨by omega, by omega⟩, iL_lt ⟨by omega, by omega⟩ ⟨by omega, by omega⟩, s1, s2]
  exact ⟨n0, n1, n2, n3, fun z => bI_0 h (fun w => w.1 z), fun z => ⟨n2, n3, n0, n1, fun z2 => bI_0 h (fun w => w.2 z2), fun z2 => bI_1 h ⟨z, z2⟩⟩⟩
theorem k_spans1 {t : St} {vx vy : Nat → Int} (ht : XV t vx vy) (hv : VB vx vy) {i j : Nat} (hi : i ≤ 19) (hj : j ≤ 19) {post : Int32 → Prop} (h : post (bI (SPN (vy i) (vy (i + 1)) (vy j) (vy (j + 1))))) : wp_X8_spansMeet_c19 t (iI (i : Int)) (iI (j : Int)) post := by
  have e1 : iI (i : Int) + 1 = iI ((i + 1 : Nat) : Int) := iI_add _ 1
  have e2 : iI (j : Int) + 1 = iI ((j + 1 : Nat) : Int) := iI_add _ 1
  have n0 : vp_in (iI (i : Int)) 61 := iI_in (by omega) (by omega) (by decide)
  have n1 : vp_in (iI ((i + 1 : Nat) : Int)) 61 := iI_in (by omega) (by omega) (by decide)
  have n2 : vp_in (iI (j : Int)) 61 := iI_in (by omega) (by omega) (by decide)
  have n3 : vp_in (iI ((j + 1 : Nat) : Int)) 61 := iI_in (by omega) (by omega) (by decide)
  have h1 := (hv i (by omega)).2
  have h2 := (hv (i + 1) (by omega)).2
  have h3 := (hv j (by omega)).2
  have h4 := (hv (j + 1) (by omega)).2
  have bz : ∀ z : Int, -500000 ≤ z ∧ z ≤ 500000 → b9 z := fun z hz => ⟨by omega, by omega⟩
  unfold wp_X8_spansMeet_c19
  rw [e1, e2, cl_n (show i ≤ 61 by omega) (by decide), cl_n (show i + 1 ≤ 61 by omega) (by decide), cl_n (show j ≤ 61 by omega) (by decide), cl_n (show j + 1 ≤ 61 by omega) (by decide), (ht i (by omega)).2, (ht (i + 1) (by omega)).2, (ht j (by omega)).2, (ht (j + 1) (by omega)).2]
  generalize vy i = a at *
  generalize vy (i + 1) = b at *
  generalize vy j = c at *
  generalize vy (j + 1) = d at *
  rw [maxL (a := d) (b := c) (bz _ h4) (bz _ h3), minL (a := a) (b := b) (bz _ h1) (bz _ h2), maxL (a := b) (b := a) (bz _ h2) (bz _ h1), minL (a := c) (b := d) (bz _ h3) (bz _ h4)]
  have m1 : -500000 ≤ (if d < c then c else d) ∧ (if d < c then c else d) ≤ 500000 := by
    by_cases q : d < c
    · rw [if_pos q]; exact h3
    · rw [if_neg q]; exact h4
  have m2 : -500000 ≤ (if b < a then b else a) ∧ (if b < a then b else a) ≤ 500000 := by
    by_cases q : b < a
    · rw [if_pos q]; exact h2
    · rw [if_neg q]; exact h1
  have m3 : -500000 ≤ (if b < a then a else b) ∧ (if b < a then a else b) ≤ 500000 := by
    by_cases q : b < a
    · rw [if_pos q]; exact h1
    · rw [if_neg q]; exact h2
  have m4 : -500000 ≤ (if d < c then d else c) ∧ (if d < c then d else c) ≤ 500000 := by
    by_cases q : d < c
    · rw [if_pos q]; exact h4
    · rw [if_neg q]; exact h3
  have s1 : ((if d < c then c else d) < (if b < a then b else a)) ↔ (c < a ∧ c < b ∧ d < a ∧ d < b) := by
    by_cases q : d < c <;> by_cases q2 : b < a <;> simp only [q, q2, if_true, if_false] <;> omega
  have s2 : ((if b < a then a else b) < (if d < c then d else c)) ↔ (a < c ∧ a < d ∧ b < c ∧ b < d) := by
    by_cases q : d < c <;> by_cases q2 : b < a <;> simp only [q, q2, if_true, if_false] <;> omega
  rw [iL_lt ⟨by omega, by omega⟩ ⟨by omega, by omega⟩, iL_lt ⟨by omega, by omega⟩ ⟨by omega, by omega⟩, s1, s2]
  exact ⟨n0, n1, n2, n3, fun z => bI_0 h (fun w => w.1 z), fun z => ⟨n2, n3, n0, n1, fun z2 => bI_0 h (fun w => w.2 z2), fun z2 => bI_1 h ⟨z, z2⟩⟩⟩
