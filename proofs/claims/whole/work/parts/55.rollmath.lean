/-! rolled balls: how far out they can come -/
theorem sq_nn (a : Int) : 0 ≤ a * a := by
  rw [← Int.natAbs_mul_self]
  exact Int.natCast_nonneg _
theorem sq_le {a b : Int} (h : a.natAbs ≤ b.natAbs) : a * a ≤ b * b := by
  rw [← Int.natAbs_mul_self (a := a), ← Int.natAbs_mul_self (a := b)]
  exact Int.ofNat_le.mpr (Nat.mul_le_mul h h)
theorem sq_abs {a L : Int} (hL : 0 ≤ L) (h : a * a ≤ L * L) : -L ≤ a ∧ a ≤ L := by
  by_cases q : a.natAbs ≤ L.natAbs
  · omega
  · have h1 : (L.natAbs + 1) * (L.natAbs + 1) ≤ a.natAbs * a.natAbs := Nat.mul_le_mul (by omega) (by omega)
    have h2 : ((L.natAbs * L.natAbs : Nat) : Int) = L * L := Int.natAbs_mul_self
    have h3 : ((a.natAbs * a.natAbs : Nat) : Int) = a * a := Int.natAbs_mul_self
    have h4 : (L.natAbs + 1) * (L.natAbs + 1) = L.natAbs * L.natAbs + 2 * L.natAbs + 1 := by grind
    omega
theorem td_r (a : Int) {n : Int} (hn : n = 10000 ∨ n = 100) : ∃ r : Int, a = n * a.tdiv n + r ∧ -(n - 1) ≤ r ∧ r ≤ n - 1 := by
  refine ⟨a - n * a.tdiv n, by omega, ?_, ?_⟩
  · rw [td_eq]
    by_cases q : 0 ≤ a
    · rw [if_pos q]; rcases hn with e | e <;> subst e <;> omega
    · rw [if_neg q]; rcases hn with e | e <;> subst e <;> omega
  · rw [td_eq]
    by_cases q : 0 ≤ a
    · rw [if_pos q]; rcases hn with e | e <;> subst e <;> omega
    · rw [if_neg q]; rcases hn with e | e <;> subst e <;> omega
theorem td_sq (a : Int) : 100000000 * (a.tdiv 10000 * a.tdiv 10000) ≤ a * a := by
  have h : (10000 * a.tdiv 10000).natAbs ≤ a.natAbs := by
    rw [td_eq]
    by_cases q : 0 ≤ a
    · rw [if_pos q]; omega
    · rw [if_neg q]; omega
  have h2 := sq_le h
  have e : (10000 * a.tdiv 10000) * (10000 * a.tdiv 10000) = 100000000 * (a.tdiv 10000 * a.tdiv 10000) := by grind
  omega
theorem tb_cs : ∀ w, w < 24 → 99994025 ≤ Cn w * Cn w + Sn w * Sn w ∧ Cn w * Cn w + Sn w * Sn w ≤ 100000000 ∧ (Cn w).natAbs + (Sn w).natAbs ≤ 14142 ∧ Cn (bk w) = Cn w ∧ Sn (bk w) = -Sn w := by decide +kernel
/-- turning never lengthens -/
theorem t_len {x y : Int} {w : Nat} (hw : w < 24) : tX x y w * tX x y w + tY x y w * tY x y w ≤ x * x + y * y := by
  have t := tb_cs w hw
  have a := td_sq (x * Cn w - y * Sn w)
  have b := td_sq (x * Sn w + y * Cn w)
  have e : (x * Cn w - y * Sn w) * (x * Cn w - y * Sn w) + (x * Sn w + y * Cn w) * (x * Sn w + y * Cn w) = (Cn w * Cn w + Sn w * Sn w) * (x * x + y * y) := by grind
  have n1 : 0 ≤ x * x + y * y := Int.add_nonneg (sq_nn x) (sq_nn y)
  have m := Int.mul_le_mul_of_nonneg_right t.2.1 n1
  unfold tX tY
  generalize (x * Cn w - y * Sn w).tdiv 10000 * (x * Cn w - y * Sn w).tdiv 10000 = p at a ⊢
  generalize (x * Sn w + y * Cn w).tdiv 10000 * (x * Sn w + y * Cn w).tdiv 10000 = q at b ⊢
  omega
theorem mul_nb {a b : Int} {m n : Nat} (ha : a.natAbs ≤ m) (hb : b.natAbs ≤ n) : (a * b).natAbs ≤ m * n := by
  rw [Int.natAbs_mul]
  exact Nat.mul_le_mul ha hb
/-- there and back: little is lost -/
theorem t_back {x y : Int} {w : Nat} (hw : w < 24) : 16000 * (x - tX (tX x y (bk w)) (tY x y (bk w)) w).natAbs ≤ x.natAbs + 38720 ∧ 16000 * (y - tY (tX x y (bk w)) (tY x y (bk w)) w).natAbs ≤ y.natAbs + 38720 := by
  obtain ⟨c1, c2, c3, c4, c5⟩ := tb_cs w hw
  obtain ⟨r1, e1, b1, b1'⟩ := td_r (x * Cn (bk w) - y * Sn (bk w)) (n := 10000) (.inl rfl)
  obtain ⟨r2, e2, b2, b2'⟩ := td_r (x * Sn (bk w) + y * Cn (bk w)) (n := 10000) (.inl rfl)
  have g1 : x * Cn (bk w) - y * Sn (bk w) = 10000 * tX x y (bk w) + r1 := e1
  have g2 : x * Sn (bk w) + y * Cn (bk w) = 10000 * tY x y (bk w) + r2 := e2
  rw [c4, c5] at g1 g2
  clear e1 e2
  generalize tX x y (bk w) = s1 at g1 g2 ⊢
  generalize tY x y (bk w) = s2 at g1 g2 ⊢
  obtain ⟨r3, e3, b3, b3'⟩ := td_r (s1 * Cn w - s2 * Sn w) (n := 10000) (.inl rfl)
  obtain ⟨r4, e4, b4, b4'⟩ := td_r (s1 * Sn w + s2 * Cn w) (n := 10000) (.inl rfl)
  have g3 : s1 * Cn w - s2 * Sn w = 10000 * tX s1 s2 w + r3 := e3
  have g4 : s1 * Sn w + s2 * Cn w = 10000 * tY s1 s2 w + r4 := e4
  clear e3 e4 c4 c5
  generalize tX s1 s2 w = f1 at g3 ⊢
  generalize tY s1 s2 w = f2 at g4 ⊢
  generalize Cn w = c at *
  generalize Sn w = s at *
  have i1 : 100000000 * (x - f1) = (100000000 - (c * c + s * s)) * x + c * r1 - s * r2 + 10000 * r3 := by grind
  have i2 : 100000000 * (y - f2) = (100000000 - (c * c + s * s)) * y + s * r1 + c * r2 + 10000 * r4 := by grind
  have k : (100000000 - (c * c + s * s)).natAbs ≤ 5975 := by omega
  have m1 := mul_nb (b := x) k (Nat.le_refl _)
  have m2 := mul_nb (b := y) k (Nat.le_refl _)
  have n1 := mul_nb (a := c) (b := r1) (n := 9999) (Nat.le_refl _) (by omega)
  have n2 := mul_nb (a := s) (b := r2) (n := 9999) (Nat.le_refl _) (by omega)
  have n3 := mul_nb (a := s) (b := r1) (n := 9999) (Nat.le_refl _) (by omega)
  have n4 := mul_nb (a := c) (b := r2) (n := 9999) (Nat.le_refl _) (by omega)
  clear g1 g2 g3 g4
  generalize (100000000 - (c * c + s * s)) * x = u1 at *
  generalize (100000000 - (c * c + s * s)) * y = u2 at *
  generalize c * r1 = v1 at *
  generalize s * r2 = v2 at *
  generalize s * r1 = v3 at *
  generalize c * r2 = v4 at *
  clear c1 c2 k
  constructor
  · omega
  · omega
theorem r_co {n m q G x g T h : Int} (hn : 0 ≤ n) (hm : 0 ≤ m) (hq : 0 ≤ q) (hq2 : 1001000 * q ≤ 64000000) (hh : 64000000 * (h * h) ≤ n * n * (x * x) + 16250000000000) (c1 : 1001 * m * (q + n) ≤ G) (c2 : 1001 * q * (n + q) + 1000 * q * m + n ≤ G) : 1000 * q * ((m * g + n * T + h) * (m * g + n * T + h) + n * m * (x * x)) + 1001 * q * n * (n + q) * (x * x - T * T) ≤ G * (n * (x * x) + m * (g * g)) + 16250000000000 := by
  have a : 0 ≤ q * ((m * g + n * T - 1000 * h) * (m * g + n * T - 1000 * h)) := Int.mul_nonneg hq (sq_nn _)
  have b : 0 ≤ 1001 * (n * ((m * g - q * T) * (m * g - q * T))) := Int.mul_nonneg (by decide) (Int.mul_nonneg hn (sq_nn _))
  have c : 0 ≤ (64000000 - 1001000 * q) * (h * h) := Int.mul_nonneg (by omega) (sq_nn _)
  have d : 0 ≤ n * n * (x * x) + 16250000000000 - 64000000 * (h * h) := by omega
  have f1 : 0 ≤ (G - 1001 * m * (q + n)) * (m * (g * g)) := Int.mul_nonneg (by omega) (Int.mul_nonneg hm (sq_nn _))
  have f2 : 0 ≤ (G - (1001 * q * (n + q) + 1000 * q * m + n)) * (n * (x * x)) := Int.mul_nonneg (by omega) (Int.mul_nonneg hn (sq_nn _))
  have s := Int.add_nonneg (Int.add_nonneg (Int.add_nonneg (Int.add_nonneg (Int.add_nonneg a b) c) d) f1) f2
  have e : q * ((m * g + n * T - 1000 * h) * (m * g + n * T - 1000 * h)) + 1001 * (n * ((m * g - q * T) * (m * g - q * T))) + (64000000 - 1001000 * q) * (h * h) + (n * n * (x * x) + 16250000000000 - 64000000 * (h * h)) + (G - 1001 * m * (q + n)) * (m * (g * g)) + (G - (1001 * q * (n + q) + 1000 * q * m + n)) * (n * (x * x)) = (G * (n * (x * x) + m * (g * g)) + 16250000000000) - (1000 * q * ((m * g + n * T + h) * (m * g + n * T + h) + n * m * (x * x)) + 1001 * q * n * (n + q) * (x * x - T * T)) := by grind
  rw [e] at s
  exact Int.le_of_sub_nonneg s
/-- what is lost by cutting, in one coordinate -/
theorem r_eta {n x F r : Int} (hn : 0 ≤ n ∧ n ≤ 100) (hr : -99 ≤ r ∧ r ≤ 99) (hE : 16000 * (x - F).natAbs ≤ x.natAbs + 38720) : 64000000 * ((n * (x - F) - r) * (n * (x - F) - r)) ≤ n * n * (x * x) + 16250000000000 := by
  generalize x - F = E at hE ⊢
  have h1 : 128000000 * (E * E) ≤ x * x + 1499238400 := by
    have a : (16000 * E).natAbs ≤ ((x.natAbs : Int) + 38720).natAbs := by omega
    have b := sq_le a
    have c := sq_nn ((x.natAbs : Int) - 38720)
    have d : ((x.natAbs : Int) * (x.natAbs : Int)) = x * x := by
      rw [← Int.natAbs_mul_self (a := x)]
      exact (Int.natCast_mul _ _).symm
    have e1 : (16000 * E) * (16000 * E) = 256000000 * (E * E) := by grind
    have e2 : ((x.natAbs : Int) + 38720) * ((x.natAbs : Int) + 38720) = (x.natAbs : Int) * (x.natAbs : Int) + 77440 * (x.natAbs : Int) + 1499238400 := by grind
    have e3 : ((x.natAbs : Int) - 38720) * ((x.natAbs : Int) - 38720) = (x.natAbs : Int) * (x.natAbs : Int) - 77440 * (x.natAbs : Int) + 1499238400 := by grind
    rw [e1, e2] at b
    rw [e3] at c
    rw [d] at b c
    omega
  have h2 : 0 ≤ (n * E + r) * (n * E + r) := sq_nn _
  have h3 : r * r ≤ 9801 := by
    have := sq_le (a := r) (b := 99) (by omega)
    omega
  have h4 : n * n ≤ 10000 := by
    have := sq_le (a := n) (b := 100) (by omega)
    omega
  have h5 : 0 ≤ n * n := sq_nn n
  have h6 := Int.mul_le_mul_of_nonneg_left h1 h5
  have e4 : (n * E - r) * (n * E - r) + (n * E + r) * (n * E + r) = 2 * (n * n * (E * E)) + 2 * (r * r) := by grind
  have e5 : n * n * (128000000 * (E * E)) = 128000000 * (n * n * (E * E)) := by grind
  have e6 : n * n * (x * x + 1499238400) = n * n * (x * x) + 1499238400 * (n * n) := by grind
  rw [e5, e6] at h6
  generalize n * n * (E * E) = z1 at *
  generalize n * n * (x * x) = z2 at *
  generalize (n * E - r) * (n * E - r) = z3 at *
  generalize (n * E + r) * (n * E + r) = z4 at *
  generalize n * n = z5 at *
  generalize r * r = z6 at *
  omega
/-- one coordinate's share, before and after -/
theorem r_id {n m x g g' : Int} (hm : m = 100 - n) : 100 * (n * ((x + g') * (x + g')) + m * (g' * g')) = (100 * g' + n * x) * (100 * g' + n * x) + n * m * (x * x) := by
  subst hm
  grind
theorem r_one {n m q G x g T F : Int} (hnm : m = 100 - n) (hn : 0 ≤ n ∧ n ≤ 100) (hq : 0 ≤ q) (hq2 : 1001000 * q ≤ 64000000) (c1 : 1001 * m * (q + n) ≤ G) (c2 : 1001 * q * (n + q) + 1000 * q * m + n ≤ G) (hE : 16000 * (x - F).natAbs ≤ x.natAbs + 38720) : 100000 * q * (n * ((x + (g + ((T - F - g) * n).tdiv 100)) * (x + (g + ((T - F - g) * n).tdiv 100))) + m * ((g + ((T - F - g) * n).tdiv 100) * (g + ((T - F - g) * n).tdiv 100))) + 1001 * q * n * (n + q) * (x * x - T * T) ≤ G * (n * (x * x) + m * (g * g)) + 16250000000000 := by
  obtain ⟨r, er, r1, r2⟩ := td_r ((T - F - g) * n) (n := 100) (.inr rfl)
  generalize ((T - F - g) * n).tdiv 100 = z at er ⊢
  have hh := r_eta (n := n) (x := x) (F := F) (r := r) hn (by omega) hE
  have k := r_co (n := n) (m := m) (q := q) (G := G) (x := x) (g := g) (T := T) (h := n * (x - F) - r) hn.1 (by omega) hq hq2 hh c1 c2
  have i := r_id (n := n) (m := m) (x := x) (g := g) (g' := g + z) hnm
  have u : 100 * (g + z) + n * x = m * g + n * T + (n * (x - F) - r) := by
    subst hnm
    grind
  rw [u] at i
  rw [← i] at k
  have e : 1000 * q * (100 * (n * ((x + (g + z)) * (x + (g + z))) + m * ((g + z) * (g + z)))) = 100000 * q * (n * ((x + (g + z)) * (x + (g + z))) + m * ((g + z) * (g + z))) := by grind
  rw [e] at k
  exact k
/-- the next step and point -/
def nG (n g T F : Int) : Int := g + ((T - F - g) * n).tdiv 100
def VV (n x y g h : Int) : Int := n * (x * x + y * y) + (100 - n) * (g * g + h * h)
theorem r_step {n q G x y g h T T2 F F2 : Int} (hn : 0 ≤ n ∧ n ≤ 100) (hq : 0 ≤ q) (hq2 : 1001000 * q ≤ 64000000) (c1 : 1001 * (100 - n) * (q + n) ≤ G) (c2 : 1001 * q * (n + q) + 1000 * q * (100 - n) + n ≤ G) (hE : 16000 * (x - F).natAbs ≤ x.natAbs + 38720) (hE2 : 16000 * (y - F2).natAbs ≤ y.natAbs + 38720) (hT : T * T + T2 * T2 ≤ x * x + y * y) : 100000 * q * VV n (x + nG n g T F) (y + nG n h T2 F2) (nG n g T F) (nG n h T2 F2) ≤ G * VV n x y g h + 32500000000000 := by
  have a := r_one (g := g) (T := T) (m := 100 - n) rfl hn hq hq2 c1 c2 hE
  have b := r_one (g := h) (T := T2) (m := 100 - n) rfl hn hq hq2 c1 c2 hE2
  have d : 0 ≤ 1001 * q * n * (n + q) * ((x * x + y * y) - (T * T + T2 * T2)) := Int.mul_nonneg (Int.mul_nonneg (Int.mul_nonneg (Int.mul_nonneg (by decide) hq) hn.1) (by omega)) (by omega)
  unfold VV nG
  generalize g + ((T - F - g) * n).tdiv 100 = g' at a ⊢
  generalize h + ((T2 - F2 - h) * n).tdiv 100 = h' at b ⊢
  have e1 : 100000 * q * (n * ((x + g') * (x + g') + (y + h') * (y + h')) + (100 - n) * (g' * g' + h' * h')) = 100000 * q * (n * ((x + g') * (x + g')) + (100 - n) * (g' * g')) + 100000 * q * (n * ((y + h') * (y + h')) + (100 - n) * (h' * h')) := by grind
  have e2 : G * (n * (x * x + y * y) + (100 - n) * (g * g + h * h)) = G * (n * (x * x) + (100 - n) * (g * g)) + G * (n * (y * y) + (100 - n) * (h * h)) := by grind
  have e3 : 1001 * q * n * (n + q) * ((x * x + y * y) - (T * T + T2 * T2)) = 1001 * q * n * (n + q) * (x * x - T * T) + 1001 * q * n * (n + q) * (y * y - T2 * T2) := by grind
  rw [e1, e2]
  rw [e3] at d
  generalize 100000 * q * (n * ((x + g') * (x + g')) + (100 - n) * (g' * g')) = z1 at *
  generalize 100000 * q * (n * ((y + h') * (y + h')) + (100 - n) * (h' * h')) = z2 at *
  generalize G * (n * (x * x) + (100 - n) * (g * g)) = z3 at *
  generalize G * (n * (y * y) + (100 - n) * (h * h)) = z4 at *
  generalize 1001 * q * n * (n + q) * (x * x - T * T) = z5 at *
  generalize 1001 * q * n * (n + q) * (y * y - T2 * T2) = z6 at *
  omega
