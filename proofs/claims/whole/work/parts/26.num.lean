/-! numbers -/
abbrev iI (z : Int) : Int32 := Int32.ofInt z
abbrev iL (z : Int) : Int64 := Int64.ofInt z
def B31 (z : Int) : Prop := -2147483648 ≤ z ∧ z ≤ 2147483647
def B63 (z : Int) : Prop := -9223372036854775808 ≤ z ∧ z ≤ 9223372036854775807
theorem iI_t {z : Int} (h : B31 z) : (iI z).toInt = z := Int32.toInt_ofInt_of_le (by have := h.1; omega) (by have := h.2; omega)
theorem iL_t {z : Int} (h : B63 z) : (iL z).toInt = z := Int64.toInt_ofInt_of_le (by have := h.1; omega) (by have := h.2; omega)
theorem iI_of (x : Int32) : x = iI x.toInt := (Int32.ofInt_toInt x).symm
theorem iL_of (x : Int64) : x = iL x.toInt := (Int64.ofInt_toInt x).symm
theorem B31_of (x : Int32) : B31 x.toInt := ⟨by have := x.le_toInt; omega, by have := x.toInt_lt; omega⟩
theorem B63_of (x : Int64) : B63 x.toInt := ⟨by have := x.le_toInt; omega, by have := x.toInt_lt; omega⟩
theorem iI_lt {a b : Int} (ha : B31 a) (hb : B31 b) : iI a < iI b ↔ a < b := by rw [Int32.lt_iff_toInt_lt, iI_t ha, iI_t hb]
theorem iI_le {a b : Int} (ha : B31 a) (hb : B31 b) : iI a ≤ iI b ↔ a ≤ b := by rw [Int32.le_iff_toInt_le, iI_t ha, iI_t hb]
theorem iI_eq {a b : Int} (ha : B31 a) (hb : B31 b) : iI a = iI b ↔ a = b := by rw [← Int32.toInt_inj, iI_t ha, iI_t hb]
theorem iL_lt {a b : Int} (ha : B63 a) (hb : B63 b) : iL a < iL b ↔ a < b := by rw [Int64.lt_iff_toInt_lt, iL_t ha, iL_t hb]
theorem iL_le {a b : Int} (ha : B63 a) (hb : B63 b) : iL a ≤ iL b ↔ a ≤ b := by rw [Int64.le_iff_toInt_le, iL_t ha, iL_t hb]
theorem iI_add (a b : Int) : iI a + iI b = iI (a + b) := (Int32.ofInt_add a b).symm
theorem iI_sub (a b : Int) : iI a - iI b = iI (a - b) := (Int32.ofInt_sub a b).symm
theorem iI_mul (a b : Int) : iI a * iI b = iI (a * b) := (Int32.ofInt_mul a b).symm
theorem iI_neg (a : Int) : -iI a = iI (-a) := (Int32.ofInt_neg a).symm
theorem iL_add (a b : Int) : iL a + iL b = iL (a + b) := (Int64.ofInt_add a b).symm
theorem iL_sub (a b : Int) : iL a - iL b = iL (a - b) := (Int64.ofInt_sub a b).symm
theorem iL_mul (a b : Int) : iL a * iL b = iL (a * b) := (Int64.ofInt_mul a b).symm
theorem iL_neg (a : Int) : -iL a = iL (-a) := (Int64.ofInt_neg a).symm
theorem iI_L {z : Int} (h : B31 z) : (iI z).toInt64 = iL z := by
  rw [← Int64.toInt_inj, Int32.toInt_toInt64, iI_t h, iL_t ⟨by have := h.1; omega, by have := h.2; omega⟩]
theorem iL_I (z : Int) : (iL z).toInt32 = iI z := Int64.toInt32_ofInt
theorem td_abs (a : Int) {b : Int} (hb : 0 < b) : -(a.natAbs : Int) ≤ a.tdiv b ∧ a.tdiv b ≤ (a.natAbs : Int) := by
  have h : (a.tdiv b).natAbs ≤ a.natAbs := by rw [Int.natAbs_tdiv]; exact Nat.div_le_self _ _
  omega
theorem iI_div {a b : Int} (ha : B31 a) (hb : B31 b) (h0 : 0 < b) : iI a / iI b = iI (a.tdiv b) := by
  have hne : iI b ≠ -1 := fun z => by
    have := congrArg Int32.toInt z
    rw [iI_t hb] at this
    have h2 : (-1 : Int32).toInt = -1 := rfl
    omega
  have h1 := td_abs a h0
  rw [← Int32.toInt_inj, Int32.toInt_div_of_ne_right _ _ hne, iI_t ha, iI_t hb]
  by_cases q : a < (-2147483647)
  · have he : a = -2147483648 := by have := ha.1; omega
    have h2 : b = 1 ∨ 2 ≤ b := by omega
    rcases h2 with h2 | h2
    · rw [h2, Int.tdiv_one, iI_t ha]
    · have h3 : (a.tdiv b).natAbs ≤ 1073741824 := by
        rw [Int.natAbs_tdiv, he]
        exact Nat.le_trans (Nat.div_le_div_left (show 2 ≤ b.natAbs by omega) (by decide)) (by decide)
      rw [iI_t ⟨by omega, by omega⟩]
  · have := ha.2
    rw [iI_t ⟨by omega, by omega⟩]
theorem iL_div {a b : Int} (ha : -9223372036854775807 ≤ a ∧ a ≤ 9223372036854775807) (hb : B63 b) (h0 : 0 < b) : iL a / iL b = iL (a.tdiv b) := by
  have hne : iL b ≠ -1 := fun z => by
    have := congrArg Int64.toInt z
    rw [iL_t hb] at this
    have h2 : (-1 : Int64).toInt = -1 := rfl
    omega
  have h1 := td_abs a h0
  rw [← Int64.toInt_inj, Int64.toInt_div_of_ne_right _ _ hne, iL_t ⟨by omega, by omega⟩, iL_t hb, iL_t ⟨by omega, by omega⟩]
theorem iI_cl {z : Int} (h : 0 ≤ z) (h2 : z ≤ 2147483647) : (iI z).toNatClampNeg = z.toNat := by
  rw [Int32.toNatClampNeg, iI_t ⟨by omega, h2⟩]
theorem iI_in {z : Int} {n : Nat} (h : 0 ≤ z) (h2 : z < n) (hn : n ≤ 2147483647) : vp_in (iI z) n := vp_in_iff.mpr (by rw [iI_t ⟨by omega, by omega⟩]; exact ⟨h, h2⟩)
theorem nI_iI (n : Nat) : nI n = iI n := (Int32.ofInt_eq_ofNat).symm
def bI (c : Prop) [Decidable c] : Int32 := if c then 1 else 0
theorem bI_ne {c : Prop} [Decidable c] : (¬ bI c = 0) ↔ c := by
  unfold bI
  by_cases h : c
  · rw [if_pos h]; exact ⟨fun _ => h, fun _ => by decide⟩
  · rw [if_neg h]; exact ⟨fun z => absurd rfl z, fun z => absurd z h⟩
theorem bI_eq {c : Prop} [Decidable c] : bI c = 0 ↔ ¬ c := ⟨fun h z => (bI_ne.mpr z) h, fun h => if_neg h⟩
theorem bI_b {c : Prop} [Decidable c] : bI c &&& 1 = bI c := by unfold bI; by_cases h : c <;> simp only [h, if_true, if_false] <;> decide
/-! the plain state -/
def FR (ii aa : List Nat) (m m' : St) : Prop := (∀ k, k ∉ ii → gI m' k = gI m k) ∧ ∀ k, k ∉ aa → gA m' k = gA m k
theorem FR.rf (ii aa : List Nat) (m : St) : FR ii aa m m := ⟨fun _ _ => rfl, fun _ _ => rfl⟩
theorem FR.tr {ii aa : List Nat} {m m1 m2 : St} (h : FR ii aa m m1) (h2 : FR ii aa m1 m2) : FR ii aa m m2 := ⟨fun k hk => (h2.1 k hk).trans (h.1 k hk), fun k hk => (h2.2 k hk).trans (h.2 k hk)⟩
theorem FR.up {ii aa ii' aa' : List Nat} {m m1 : St} (h : FR ii aa m m1) (hi : ∀ k ∈ ii, k ∈ ii') (ha : ∀ k ∈ aa, k ∈ aa') : FR ii' aa' m m1 := ⟨fun k hk => h.1 k (fun z => hk (hi k z)), fun k hk => h.2 k (fun z => hk (ha k z))⟩
theorem FR.sI {ii aa : List Nat} {m : St} (k : Nat) (v : Int32) (h : k ∈ ii) : FR ii aa m (sI m k v) := ⟨fun j hj => show (if j = k then v else m.1 j) = m.1 j from if_neg (fun z => hj (by rw [z]; exact h)), fun _ _ => rfl⟩
theorem FR.sA {ii aa : List Nat} {m : St} (k : Nat) (v : Nat → Int32) (h : k ∈ aa) : FR ii aa m (sA m k v) := ⟨fun _ _ => rfl, fun j hj => show (if j = k then v else m.2.2.1 j) = m.2.2.1 j from if_neg (fun z => hj (by rw [z]; exact h))⟩
theorem upd_s (f : Nat → Int32) (k : Nat) (x : Int32) : upd f k x k = x := pk_us
theorem upd_n (f : Nat → Int32) {k j : Nat} (x : Int32) (h : j ≠ k) : upd f k x j = f j := pk_un h
/-! what class and reference have in common -/
def SW (a : St) (pm pt on fm : Int32) (se pa pb ox oy fx fy : Nat → Int32) : Prop := gI a 2 = pm ∧ gI a 3 = pt ∧ gI a 1 = on ∧ gI a 4 = fm ∧ gA a 1 0 = se 0 + 100 ∧ (∀ k, 0 < k → k < 5 → gA a 1 k = se k) ∧ (∀ k, k < 20 → gA a 2 k = pa k ∧ gA a 3 k = pb k) ∧ (∀ k, k < 8 → gA a 6 k = ox k ∧ gA a 7 k = oy k) ∧ ∀ k, k < 24 → gA a 4 k = fx k ∧ gA a 5 k = fy k
def rI (lo hi : Int) (x : Int32) : Prop := lo ≤ x.toInt ∧ x.toInt ≤ hi
def SB (a : St) : Prop := rI 0 20 (gI a 2) ∧ rI 0 8 (gI a 1) ∧ rI 0 24 (gI a 4) ∧ (∀ k, k < 5 → rI (zL k).toInt (zM k).toInt (gA a 1 k)) ∧ (∀ k, k < 20 → rI 0 1000 (gA a 2 k) ∧ rI (-99) 99 (gA a 3 k)) ∧ (∀ k, k < 8 → rI (-1000) 1000 (gA a 6 k) ∧ rI (-1000) 1000 (gA a 7 k)) ∧ ∀ k, k < 24 → rI (-2000) 2000 (gA a 4 k) ∧ rI (-2000) 2000 (gA a 5 k)
def SM (a mt : St) : Prop := SW a (gI mt 10) (gI mt 11) (gI mt 14) (gI mt 27) (gA mt 3) (gA mt 8) (gA mt 9) (gA mt 12) (gA mt 13) (gA mt 25) (gA mt 26)
def SK (a : St) (K : Nat → Int32) (o : Nat) : Prop := SW a (K o) (K (o + 1)) (K (o + 2)) (K (o + 3)) (fun k => K (o + 4 + k)) (fun k => K (o + 9 + 2 * k)) (fun k => K (o + 10 + 2 * k)) (fun k => K (o + 49 + 2 * k)) (fun k => K (o + 50 + 2 * k)) (fun k => K (o + 65 + 2 * k)) (fun k => K (o + 66 + 2 * k))
def IR (j : Option St) (K kp : Nat → Int32) (n : Nat) : Prop := match j with
  | none => kp n = 0
  | some s => kp n = 1 ∧ SK s K (140 * n) ∧ SB s
def PR (st mt : St) : Prop := gI st 0 = gI mt 7 ∧ rI 0 40 (gI st 0) ∧ ∀ k, k < 40 → gA st 0 k = gA mt 6 k
def LR (st : St) (j0 j1 : Option St) (mt : St) : Prop := SM st mt ∧ SB st ∧ PR st mt ∧ (∀ k, k < 24 → gA mt 0 k = zS k) ∧ IR j0 (gA mt 31) (gA mt 32) 0 ∧ IR j1 (gA mt 31) (gA mt 32) 1
/-- what a call of the reference's may change without anybody seeing it -/
abbrev mI : List Nat := [1, 2, 15, 16, 17, 18, 22, 23, 24, 30, 33, 34]
abbrev mA : List Nat := [4, 5, 19, 20, 21, 28, 29]
abbrev xI : List Nat := [5, 6, 7, 8, 9]
abbrev xA : List Nat := [8, 9, 10]
theorem LR.fr {st st' mt mt' : St} {j0 j1 : Option St} (h : LR st j0 j1 mt) (hx : FR xI xA st st') (hm : FR mI mA mt mt') : LR st' j0 j1 mt' := by
  unfold LR SM SW SB PR at h ⊢
  rw [hx.1 0 (by decide), hx.1 1 (by decide), hx.1 2 (by decide), hx.1 3 (by decide), hx.1 4 (by decide), hx.2 0 (by decide), hx.2 1 (by decide), hx.2 2 (by decide), hx.2 3 (by decide), hx.2 4 (by decide), hx.2 5 (by decide), hx.2 6 (by decide), hx.2 7 (by decide),
    hm.1 7 (by decide), hm.1 10 (by decide), hm.1 11 (by decide), hm.1 14 (by decide), hm.1 27 (by decide), hm.2 0 (by decide), hm.2 3 (by decide), hm.2 6 (by decide), hm.2 8 (by decide), hm.2 9 (by decide), hm.2 12 (by decide), hm.2 13 (by decide), hm.2 25 (by decide), hm.2 26 (by decide), hm.2 31 (by decide), hm.2 32 (by decide)]
  exact h
/-! small tests -/
theorem k_within {a b c : Int32} {post : Int32 → Prop} (h : post (bI (b.toInt ≤ a.toInt ∧ a.toInt ≤ c.toInt))) : wp_X10_within a b c post := by
  unfold wp_X10_within
  rw [Int32.lt_iff_toInt_lt, Int32.lt_iff_toInt_lt]
  refine ⟨fun q => ?_, fun q => ⟨fun q2 => ?_, fun q2 => ?_⟩⟩
  · rw [show bI (b.toInt ≤ a.toInt ∧ a.toInt ≤ c.toInt) = 0 from if_neg (by omega)] at h; exact h
  · rw [show bI (b.toInt ≤ a.toInt ∧ a.toInt ≤ c.toInt) = 0 from if_neg (by omega)] at h; exact h
  · rw [show bI (b.toInt ≤ a.toInt ∧ a.toInt ≤ c.toInt) = 1 from if_pos (by omega)] at h; exact h
theorem k_in {a b c : Int64} {post : Int32 → Prop} (h : post (bI (b.toInt ≤ a.toInt ∧ a.toInt ≤ c.toInt))) : wp_X11_in a b c post := by
  unfold wp_X11_in
  rw [Int64.lt_iff_toInt_lt, Int64.lt_iff_toInt_lt]
  refine ⟨fun q => ?_, fun q => ⟨fun q2 => ?_, fun q2 => ?_⟩⟩
  · rw [show bI (b.toInt ≤ a.toInt ∧ a.toInt ≤ c.toInt) = 0 from if_neg (by omega)] at h; exact h
  · rw [show bI (b.toInt ≤ a.toInt ∧ a.toInt ≤ c.toInt) = 0 from if_neg (by omega)] at h; exact h
  · rw [show bI (b.toInt ≤ a.toInt ∧ a.toInt ≤ c.toInt) = 1 from if_pos (by omega)] at h; exact h
/-- a test of the class, and one of the reference, each with both ends -/
theorem t_x {a b c : Int32} {lo hi : Int} (hb : b.toInt = lo) (hc : c.toInt = hi) {post : Int32 → Prop} (h : post (bI (lo ≤ a.toInt ∧ a.toInt ≤ hi))) : wp_X10_within a b c post := k_within (by rw [hb, hc]; exact h)
theorem t_m {a : Int32} {b c : Int64} {lo hi : Int} (hb : b.toInt = lo) (hc : c.toInt = hi) {post : Int32 → Prop} (h : post (bI (lo ≤ a.toInt ∧ a.toInt ≤ hi))) : wp_X11_in a.toInt64 b c post := k_in (by rw [hb, hc, Int32.toInt_toInt64]; exact h)
/-- both sides of a test -/
theorem br {c : Prop} [Decidable c] {A B : Prop} (ht : c → A) (hf : ¬ c → B) : ((¬ bI c = 0) → A) ∧ ((bI c = 0) → B) := ⟨fun h => ht (bI_ne.mp h), fun h => hf (bI_eq.mp h)⟩
theorem br' {c : Prop} [Decidable c] {A B : Prop} (hf : ¬ c → A) (ht : c → B) : ((bI c = 0) → A) ∧ ((¬ bI c = 0) → B) := ⟨fun h => hf (bI_eq.mp h), fun h => ht (bI_ne.mp h)⟩
