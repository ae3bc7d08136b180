/-! counting bits -/
theorem nI_and (a b : Nat) : nI a &&& nI b = nI (a &&& b) := Int32.toBitVec_inj.mp (BitVec.ofNat_and (x := a) (y := b)).symm
theorem nI_or (a b : Nat) : nI a ||| nI b = nI (a ||| b) := Int32.toBitVec_inj.mp (BitVec.ofNat_or (x := a) (y := b)).symm
theorem nI_ad (a b : Nat) : nI a + nI b = nI (a + b) := by
  rw [nI_iI, nI_iI, nI_iI, iI_add]
  congr 1
theorem nI_su {a b : Nat} (h : b ≤ a) : nI a - nI b = nI (a - b) := by
  rw [nI_iI, nI_iI, nI_iI, iI_sub]
  congr 1
  omega
theorem and8 {a b c d : Nat} (ha : a < 256) (hc : c < 256) : (a + 256 * b) &&& (c + 256 * d) = (a &&& c) + 256 * (b &&& d) := by
  have h1 : a &&& c < 2 ^ 8 := Nat.and_lt_two_pow _ hc
  refine Nat.eq_of_testBit_eq (fun i => ?_)
  rw [Nat.testBit_and, Nat.add_comm a, Nat.add_comm c, Nat.add_comm (a &&& c), show 256 = 2 ^ 8 from rfl, Nat.testBit_two_pow_mul_add _ ha, Nat.testBit_two_pow_mul_add _ hc, Nat.testBit_two_pow_mul_add _ h1]
  by_cases q : i < 8
  · rw [if_pos q, if_pos q, if_pos q, Nat.testBit_and]
  · rw [if_neg q, if_neg q, if_neg q, Nat.testBit_and]
theorem and24 {a b c m : Nat} (ha : a < 256) (hb : b < 256) (hc : c < 256) (hm : m < 256) : (a + 256 * (b + 256 * c)) &&& (m + 256 * (m + 256 * (m + 256 * m))) = (a &&& m) + 256 * ((b &&& m) + 256 * (c &&& m)) := by
  have h := and8 (b := 0) (d := m) hc hm
  rw [Nat.mul_zero, Nat.add_zero, Nat.zero_and, Nat.mul_zero, Nat.add_zero] at h
  rw [and8 ha hm, and8 hb hm, h]
def s1 (b : Nat) : Nat := b - (b / 2 &&& 85)
def s2 (b : Nat) : Nat := (b &&& 51) + (b / 4 &&& 51)
def s3 (b : Nat) : Nat := (b + b / 16) &&& 15
def pc8 (b : Nat) : Nat := b % 2 + b / 2 % 2 + b / 4 % 2 + b / 8 % 2 + b / 16 % 2 + b / 32 % 2 + b / 64 % 2 + b / 128 % 2
theorem tb1 : ∀ b, b < 256 → ∀ c, c < 2 → (b / 2 + 128 * c) &&& 85 = (b / 2 &&& 85) := by decide +kernel
theorem tb1' : ∀ b, b < 256 → (b / 2 &&& 85) ≤ b ∧ s1 b < 256 := by decide +kernel
theorem tb2 : ∀ b, b < 256 → ∀ c, c < 4 → (b / 4 + 64 * c) &&& 51 = (b / 4 &&& 51) := by decide +kernel
theorem tb2' : ∀ b, b < 256 → s2 (s1 b) < 72 ∧ s2 (s1 b) % 16 < 8 := by decide +kernel
theorem tb3 : ∀ b, b < 72 → ∀ c, c < 8 → (b + b / 16 + 16 * c) &&& 15 = (b + b / 16) &&& 15 := by decide +kernel
theorem tb4 : ∀ b, b < 256 → s3 (s2 (s1 b)) = pc8 b ∧ pc8 b ≤ 8 := by decide +kernel
theorem st1 {a b c : Nat} (ha : a < 256) (hb : b < 256) (hc : c < 256) : (a + 256 * (b + 256 * c)) - ((a + 256 * (b + 256 * c)) / 2 &&& 1431655765) = s1 a + 256 * (s1 b + 256 * s1 c) ∧ ((a + 256 * (b + 256 * c)) / 2 &&& 1431655765) ≤ (a + 256 * (b + 256 * c)) := by
  have e : (a + 256 * (b + 256 * c)) / 2 = (a / 2 + 128 * (b % 2)) + 256 * ((b / 2 + 128 * (c % 2)) + 256 * (c / 2 + 128 * 0)) := by omega
  rw [e, show (1431655765 : Nat) = 85 + 256 * (85 + 256 * (85 + 256 * 85)) from rfl, and24 (by omega) (by omega) (by omega) (by decide), tb1 a ha _ (by omega), tb1 b hb _ (by omega), tb1 c hc 0 (by decide)]
  have h1 := (tb1' a ha).1
  have h2 := (tb1' b hb).1
  have h3 := (tb1' c hc).1
  unfold s1
  generalize a / 2 &&& 85 = x at h1 ⊢
  generalize b / 2 &&& 85 = y at h2 ⊢
  generalize c / 2 &&& 85 = z at h3 ⊢
  omega
theorem st2 {a b c : Nat} (ha : a < 256) (hb : b < 256) (hc : c < 256) : ((a + 256 * (b + 256 * c)) &&& 858993459) + ((a + 256 * (b + 256 * c)) / 4 &&& 858993459) = s2 a + 256 * (s2 b + 256 * s2 c) := by
  have e : (a + 256 * (b + 256 * c)) / 4 = (a / 4 + 64 * (b % 4)) + 256 * ((b / 4 + 64 * (c % 4)) + 256 * (c / 4 + 64 * 0)) := by omega
  rw [e, show (858993459 : Nat) = 51 + 256 * (51 + 256 * (51 + 256 * 51)) from rfl, and24 ha hb hc (by decide), and24 (by omega) (by omega) (by omega) (by decide), tb2 a ha _ (by omega), tb2 b hb _ (by omega), tb2 c hc 0 (by decide)]
  unfold s2
  omega
theorem st3 {a b c : Nat} (ha : a < 72) (hb : b < 72) (hc : c < 72) (hb2 : b % 16 < 8) (hc2 : c % 16 < 8) : ((a + 256 * (b + 256 * c)) + (a + 256 * (b + 256 * c)) / 16) &&& 252645135 = s3 a + 256 * (s3 b + 256 * s3 c) := by
  have e : (a + 256 * (b + 256 * c)) + (a + 256 * (b + 256 * c)) / 16 = (a + a / 16 + 16 * (b % 16)) + 256 * ((b + b / 16 + 16 * (c % 16)) + 256 * (c + c / 16 + 16 * 0)) := by omega
  rw [e, show (252645135 : Nat) = 15 + 256 * (15 + 256 * (15 + 256 * 15)) from rfl, and24 (by omega) (by omega) (by omega) (by decide), tb3 a ha _ hb2, tb3 b hb _ hc2, tb3 c hc 0 (by decide)]
  rfl
theorem k_bc {a b c : Nat} (ha : a < 256) (hb : b < 256) (hc : c < 256) {post : Int32 → Prop} (h : post (nI (pc8 a + pc8 b + pc8 c))) : wp_J6_bitCount_0f7a4 (nI (a + 256 * (b + 256 * c))) post := by
  intro x1 e1 x3 e3 x5 e5 x7 e7 x9 e9
  have a1 := (tb1' a ha).2
  have b1 := (tb1' b hb).2
  have c1 := (tb1' c hc).2
  have a2 := tb2' a ha
  have b2 := tb2' b hb
  have c2 := tb2' c hc
  have a4 := tb4 a ha
  have b4 := tb4 b hb
  have c4 := tb4 c hc
  have f1 : x1 = nI (s1 a + 256 * (s1 b + 256 * s1 c)) := by
    rw [e1, pk_ushrN (by omega) 1 1 (by decide), show (1431655765 : Int32) = nI 1431655765 from rfl, nI_and, nI_su (st1 ha hb hc).2]
    exact congrArg nI (st1 ha hb hc).1
  have f3 : x3 = nI (s2 (s1 a) + 256 * (s2 (s1 b) + 256 * s2 (s1 c))) := by
    rw [e3, f1, pk_ushrN (by omega) 2 2 (by decide), show (858993459 : Int32) = nI 858993459 from rfl, nI_and, nI_and, nI_ad]
    exact congrArg nI (st2 a1 b1 c1)
  have f5 : x5 = nI (pc8 a + 256 * (pc8 b + 256 * pc8 c)) := by
    rw [e5, f3, pk_ushrN (by omega) 4 4 (by decide), show (252645135 : Int32) = nI 252645135 from rfl, nI_ad, nI_and, ← a4.1, ← b4.1, ← c4.1]
    exact congrArg nI (st3 a2.1 b2.1 c2.1 b2.2 c2.2)
  have f7 : x7 = nI ((pc8 a + pc8 b) + 256 * ((pc8 b + pc8 c) + 256 * pc8 c)) := by
    rw [e7, f5, pk_ushrN (by omega) 8 8 (by decide), nI_ad]
    refine congrArg nI ?_
    omega
  have f9 : x9 = nI ((pc8 a + pc8 b + pc8 c) + 256 * ((pc8 b + pc8 c) + 256 * pc8 c)) := by
    rw [e9, f7, pk_ushrN (by omega) 16 16 (by decide), nI_ad]
    refine congrArg nI ?_
    omega
  rw [f9, pk_andN (by omega) 6 (by decide), show ((pc8 a + pc8 b + pc8 c) + 256 * ((pc8 b + pc8 c) + 256 * pc8 c)) % 2 ^ 6 = pc8 a + pc8 b + pc8 c by omega]
  exact h
