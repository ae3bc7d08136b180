theorem td_eq (z n : Int) : z.tdiv n = if 0 ≤ z then z / n else -((-z) / n) := by
  by_cases h : 0 ≤ z
  · rw [if_pos h, Int.tdiv_eq_ediv_of_nonneg h]
  · rw [if_neg h]
    have e : z = -(-z) := by omega
    conv => lhs; rw [e]
    rw [Int.neg_tdiv, Int.tdiv_eq_ediv_of_nonneg (by omega)]
theorem xor_pos {a n : Int} (ha : B31 a) (hn : B31 n) (h0 : 0 < n) : (0 ≤ (iI a ^^^ iI n)) ↔ 0 ≤ a := by
  have h1 : (iI a ^^^ iI n).toBitVec.msb = ((iI a).toBitVec.msb ^^ (iI n).toBitVec.msb) := by
    rw [Int32.toBitVec_xor, BitVec.msb_xor]
  have hm : ∀ x : Int32, x.toBitVec.msb = decide (x.toInt < 0) := fun x => BitVec.msb_eq_toInt
  rw [hm, hm, hm, iI_t ha, iI_t hn, show decide (n < 0) = false from decide_eq_false (by omega), Bool.xor_false] at h1
  rw [Int32.le_iff_toInt_le]
  have h2 := decide_eq_decide.mp h1
  show 0 ≤ (iI a ^^^ iI n).toInt ↔ 0 ≤ a
  omega
theorem k_fm {z n : Int} (hz : B31 z) (hn : n = 24 ∨ n = 240) {post : Int32 → Prop} (h : post (iI (z % n))) : wp_J9_floorMod_7cf53 (iI z) (iI n) post := by
  have hb : B31 n := by rcases hn with rfl | rfl <;> exact ⟨by decide, by decide⟩
  have h0 : 0 < n := by rcases hn with rfl | rfl <;> decide
  have e1 : iI z - iI z / iI n * iI n = iI (z - z.tdiv n * n) := by rw [iI_div hz hb h0, iI_mul, iI_sub]
  refine ⟨fun q => ?_, fun x e => ?_⟩
  · have := (iI_eq hb ⟨by decide, by decide⟩ (b := 0)).mp q
    omega
  · rw [e1] at e
    have hr : (0 ≤ z → z - z.tdiv n * n = z % n) ∧ (¬ 0 ≤ z → (z - z.tdiv n * n = 0 → z % n = 0) ∧ (z - z.tdiv n * n ≠ 0 → z - z.tdiv n * n + n = z % n)) ∧ -n < z - z.tdiv n * n ∧ z - z.tdiv n * n < n := by
      rw [td_eq]
      rcases hn with rfl | rfl
      · by_cases q : 0 ≤ z
        · rw [if_pos q]; refine ⟨fun _ => ?_, fun w => absurd q w, ?_, ?_⟩ <;> omega
        · rw [if_neg q]; refine ⟨fun w => absurd w q, fun _ => ⟨fun _ => ?_, fun _ => ?_⟩, ?_, ?_⟩ <;> omega
      · by_cases q : 0 ≤ z
        · rw [if_pos q]; refine ⟨fun _ => ?_, fun w => absurd q w, ?_, ?_⟩ <;> omega
        · rw [if_neg q]; refine ⟨fun w => absurd w q, fun _ => ⟨fun _ => ?_, fun _ => ?_⟩, ?_, ?_⟩ <;> omega
    obtain ⟨r1, r2, r3, r4⟩ := hr
    have hx0 : x = 0 ↔ z - z.tdiv n * n = 0 := by
      rw [e, show (0 : Int32) = iI 0 from rfl, iI_eq ⟨by have := hb.1; have := hb.2; omega, by have := hb.2; omega⟩ ⟨by decide, by decide⟩]
    refine ⟨fun q => ?_, fun q => ⟨fun q2 => ?_, fun q2 => ?_⟩⟩
    · rw [xor_pos hz hb h0] at q
      rw [e, r1 q]; exact h
    · rw [xor_pos hz hb h0] at q
      rw [e, hx0.mp q2]
      rw [(r2 q).1 (hx0.mp q2)] at h; exact h
    · rw [xor_pos hz hb h0] at q
      rw [e, iI_add, (r2 q).2 (fun w => q2 (hx0.mpr w))]; exact h
/-! turning -/
def Sn (w : Nat) : Int := (zS w).toInt
def Cn (w : Nat) : Int := (zS ((w + 6) % 24)).toInt
def tX (x y : Int) (w : Nat) : Int := (x * Cn w - y * Sn w).tdiv 10000
def tY (x y : Int) (w : Nat) : Int := (x * Sn w + y * Cn w).tdiv 10000
theorem Sn_b : ∀ w, w < 24 → -10000 ≤ Sn w ∧ Sn w ≤ 10000 := by decide +kernel
theorem Cn_b : ∀ w, w < 24 → -10000 ≤ Cn w ∧ Cn w ≤ 10000 := by decide +kernel
def b9 (z : Int) : Prop := -1000000000 ≤ z ∧ z ≤ 1000000000
theorem mul_b {a b m n : Int} (ha : -m ≤ a ∧ a ≤ m) (hb : -n ≤ b ∧ b ≤ n) (hm : 0 ≤ m) (hn : 0 ≤ n) : -(m * n) ≤ a * b ∧ a * b ≤ m * n := by
  have h1 : a.natAbs ≤ m.natAbs := by omega
  have h2 : b.natAbs ≤ n.natAbs := by omega
  have h3 : (a * b).natAbs ≤ m.natAbs * n.natAbs := by rw [Int.natAbs_mul]; exact Nat.mul_le_mul h1 h2
  have h4 : ((m.natAbs * n.natAbs : Nat) : Int) = m * n := by
    rw [Int.natCast_mul, Int.natAbs_of_nonneg hm, Int.natAbs_of_nonneg hn]
  omega
theorem td_b {a b n : Int} (hn : 0 < n) (h : -(b * n) ≤ a ∧ a ≤ b * n) : -b ≤ a.tdiv n ∧ a.tdiv n ≤ b := by
  rw [td_eq]
  by_cases q : 0 ≤ a
  · rw [if_pos q]
    have h1 : a / n ≤ b := Int.ediv_le_of_le_mul hn h.2
    have h2 : 0 ≤ a / n := Int.ediv_nonneg q (by omega)
    omega
  · rw [if_neg q]
    have h1 : (-a) / n ≤ b := Int.ediv_le_of_le_mul hn (by omega)
    have h2 : 0 ≤ (-a) / n := Int.ediv_nonneg (by omega) (by omega)
    omega
theorem tXY_b {x y b : Int} {w : Nat} (hw : w < 24) (hb : 0 ≤ b) (hx : -b ≤ x ∧ x ≤ b) (hy : -b ≤ y ∧ y ≤ b) : (-(2 * b) ≤ tX x y w ∧ tX x y w ≤ 2 * b) ∧ (-(2 * b) ≤ tY x y w ∧ tY x y w ≤ 2 * b) := by
  have s := Sn_b w hw
  have c := Cn_b w hw
  have h1 := mul_b hx c hb (by decide)
  have h2 := mul_b hy s hb (by decide)
  have h3 := mul_b hx s hb (by decide)
  have h4 := mul_b hy c hb (by decide)
  exact ⟨td_b (by decide) (by omega), td_b (by decide) (by omega)⟩
theorem nat_i {w n : Nat} (hw : w < n) (hn : n ≤ 1000000) : B31 (w : Int) := ⟨by omega, by omega⟩
theorem k_sine {w : Nat} (hw : w < 24) {post : Int64 → Prop} (h : post (iL (Sn w))) : wp_X9_sine (iI w) post := by
  refine k_fm (n := 24) (nat_i hw (by decide)) (Or.inl rfl) ?_
  rw [show ((w : Int) % 24) = (w : Int) by omega]
  refine ⟨iI_in (by omega) (by omega) (by decide), ?_⟩
  rw [iI_cl (by omega) (by omega), show (w : Int).toNat = w by omega, iI_of (zS w), iI_L (B31_of _)]
  exact h
theorem k_cosine {w : Nat} (hw : w < 24) {post : Int64 → Prop} (h : post (iL (Cn w))) : wp_X9_cosine (iI w) post := by
  have e : iI (w : Int) + 6 = iI ((w : Int) + 6) := iI_add _ 6
  unfold wp_X9_cosine
  rw [e]
  refine k_fm (n := 24) ⟨by omega, by omega⟩ (Or.inl rfl) ?_
  refine ⟨iI_in (by omega) (by omega) (by decide), ?_⟩
  rw [iI_cl (by omega) (by omega), show (((w : Int) + 6) % 24).toNat = (w + 6) % 24 by omega, iI_of (zS _), iI_L (B31_of _)]
  exact h
theorem k_turnX {x y : Int} {w : Nat} (hw : w < 24) (hx : b9 x) (hy : b9 y) {post : Int64 → Prop} (h : post (iL (tX x y w))) : wp_X9_turnX (iL x) (iL y) (iI w) post := by
  refine k_cosine hw (k_sine hw ?_)
  have h1 := mul_b hx (Cn_b w hw) (by decide) (by decide)
  have h2 := mul_b hy (Sn_b w hw) (by decide) (by decide)
  rw [iL_mul, iL_mul, iL_sub, show (10000 : Int64) = iL 10000 from rfl, iL_div ⟨by omega, by omega⟩ ⟨by decide, by decide⟩ (by decide)]
  exact h
theorem k_turnY {x y : Int} {w : Nat} (hw : w < 24) (hx : b9 x) (hy : b9 y) {post : Int64 → Prop} (h : post (iL (tY x y w))) : wp_X9_turnY (iL x) (iL y) (iI w) post := by
  refine k_sine hw (k_cosine hw ?_)
  have h1 := mul_b hx (Sn_b w hw) (by decide) (by decide)
  have h2 := mul_b hy (Cn_b w hw) (by decide) (by decide)
  rw [iL_mul, iL_mul, iL_add, show (10000 : Int64) = iL 10000 from rfl, iL_div ⟨by omega, by omega⟩ ⟨by decide, by decide⟩ (by decide)]
  exact h
theorem rem_i {z n : Int} (hz : 0 ≤ z) (hz2 : B31 z) (hn : 0 < n) (hn2 : B31 n) : iI z - iI z / iI n * iI n = iI (z % n) := by
  rw [iI_div hz2 hn2 hn, iI_mul, iI_sub, Int.tdiv_eq_ediv_of_nonneg hz]
  congr 1
  have := Int.emod_def z n
  rw [this, Int.mul_comm]
theorem k_turnP {mt : St} (hs : ∀ k, k < 24 → gA mt 0 k = zS k) {x y : Int} {w : Nat} (hw : w < 24) (hx : b9 x) (hy : b9 y) {post : St → Prop} (h : post (sI (sI mt 1 (iI (tX x y w))) 2 (iI (tY x y w)))) : wp_X11_turnPoint mt (iI x) (iI y) (iI w) post := by
  have hx3 : B31 x := ⟨by have := hx.1; omega, by have := hx.2; omega⟩
  have hy3 : B31 y := ⟨by have := hy.1; omega, by have := hy.2; omega⟩
  have e6 : (iI (w : Int) + 6) - (iI (w : Int) + 6) / 24 * 24 = iI (((w : Int) + 6) % 24) := by
    rw [show iI (w : Int) + 6 = iI ((w : Int) + 6) from iI_add _ 6]
    exact rem_i (n := 24) (by omega) ⟨by omega, by omega⟩ (by decide) ⟨by decide, by decide⟩
  have c0 : (iI (w : Int)).toNatClampNeg = w := by rw [iI_cl (by omega) (by omega)]; omega
  have c6 : (iI (((w : Int) + 6) % 24)).toNatClampNeg = (w + 6) % 24 := by rw [iI_cl (by omega) (by omega)]; omega
  refine ⟨iI_in (by omega) (by omega) (by decide), fun x1 e1 => ⟨by rw [e6]; exact iI_in (by omega) (by omega) (by decide), fun x3 e3 x5 e5 x7 e7 => ?_⟩⟩
  rw [c0, hs w hw, iI_of (zS w), iI_L (B31_of _)] at e1
  rw [e6, c6, hs _ (by omega), iI_of (zS _), iI_L (B31_of _)] at e3
  have h1 := mul_b hx (Cn_b w hw) (by decide) (by decide)
  have h2 := mul_b hy (Sn_b w hw) (by decide) (by decide)
  have h3 := mul_b hx (Sn_b w hw) (by decide) (by decide)
  have h4 := mul_b hy (Cn_b w hw) (by decide) (by decide)
  have f5 : x5 = iI (tX x y w) := by
    rw [e5, e1, e3, iI_L hx3, iI_L hy3]
    show ((iL x * iL (Cn w) - iL y * iL (Sn w)) / 10000).toInt32 = _
    rw [iL_mul, iL_mul, iL_sub, show (10000 : Int64) = iL 10000 from rfl, iL_div ⟨by omega, by omega⟩ ⟨by decide, by decide⟩ (by decide), iL_I]
    rfl
  have f7 : x7 = iI (tY x y w) := by
    rw [e7, e1, e3, iI_L hx3, iI_L hy3]
    show ((iL x * iL (Sn w) + iL y * iL (Cn w)) / 10000).toInt32 = _
    rw [iL_mul, iL_mul, iL_add, show (10000 : Int64) = iL 10000 from rfl, iL_div ⟨by omega, by omega⟩ ⟨by decide, by decide⟩ (by decide), iL_I]
    rfl
  rw [f5, f7]; exact h
/-! the platform's way -/
def hd (z : Int) : Int := if z < -99 then -99 else if 99 < z then 99 else z
theorem hd_b (z : Int) : -99 ≤ hd z ∧ hd z ≤ 99 := by unfold hd; by_cases h : z < -99 <;> by_cases h2 : 99 < z <;> simp only [h, h2, if_true, if_false] <;> omega
def pk (pa pb : Nat → Int32) (t p : Int) : Nat → Int
  | 0 => p
  | k + 1 => if (pa k).toInt = t then hd (pk pa pb t p k + (pb k).toInt) else pk pa pb t p k
def sl (p s : Int) : Int := if 0 < p then (if 0 < p - s then p - s else 0) else (if p + s < 0 then p + s else 0)
def ap (pa pb : Nat → Int32) (c : Nat) (s p0 : Int) : Nat → Int × Int
  | 0 => (0, p0)
  | t + 1 => (((ap pa pb c s p0 t).1 + pk pa pb t (ap pa pb c s p0 t).2 c) % 240, sl (pk pa pb t (ap pa pb c s p0 t).2 c) s)
theorem pk_b {pa pb : Nat → Int32} {t p : Int} (hp : -99 ≤ p ∧ p ≤ 99) : ∀ k, -99 ≤ pk pa pb t p k ∧ pk pa pb t p k ≤ 99 := by
  intro k
  induction k with
  | zero => exact hp
  | succ k ih =>
    unfold pk
    by_cases h : (pa k).toInt = t
    · rw [if_pos h]; exact hd_b _
    · rw [if_neg h]; exact ih
theorem sl_b {p s : Int} (hp : -99 ≤ p ∧ p ≤ 99) (hs : 0 ≤ s) : -99 ≤ sl p s ∧ sl p s ≤ 99 := by
  unfold sl
  by_cases h : 0 < p <;> by_cases h2 : 0 < p - s <;> by_cases h3 : p + s < 0 <;> simp only [h, h2, h3, if_true, if_false] <;> omega
theorem ap_b {pa pb : Nat → Int32} {c : Nat} {s p0 : Int} (hp : -99 ≤ p0 ∧ p0 ≤ 99) (hs : 0 ≤ s) : ∀ t, (0 ≤ (ap pa pb c s p0 t).1 ∧ (ap pa pb c s p0 t).1 < 240) ∧ (-99 ≤ (ap pa pb c s p0 t).2 ∧ (ap pa pb c s p0 t).2 ≤ 99) := by
  intro t
  induction t with
  | zero => exact ⟨⟨(show (0 : Int) ≤ 0 by decide), (show (0 : Int) < 240 by decide)⟩, hp⟩
  | succ t ih =>
    refine ⟨?_, sl_b (pk_b ih.2 c) hs⟩
    show 0 ≤ (_ % 240 : Int) ∧ (_ % 240 : Int) < 240
    omega
