/-! rolled balls: all ticks -/
theorem r_DA {n p2 s2 b T F g L : Int} (hn : 0 ≤ n) (hm : 1 ≤ 100 - n) (hV : n * p2 + (100 - n) * s2 ≤ b) (hT : T * T ≤ p2) (hF : F * F ≤ p2) (hg : g * g ≤ s2) (hb : n * (4 * (100 - n) + n) * b ≤ (100 - n) * (L * L)) : ((T - F - g) * n) * ((T - F - g) * n) ≤ L * L := by
  have hm0 : 0 ≤ 100 - n := by omega
  generalize 100 - n = m at hm hm0 hV hb
  have a1 := Int.mul_le_mul_of_nonneg_left hT hn
  have a2 := Int.mul_le_mul_of_nonneg_left hF hn
  have a3 := Int.mul_le_mul_of_nonneg_left hg hm0
  have k0 : 0 ≤ 4 * m + n := by omega
  have w : n * (T * T) + n * (F * F) + 2 * (m * (g * g)) ≤ 2 * b := by omega
  have k1 := Int.mul_le_mul_of_nonneg_left w k0
  have i : (4 * m + n) * (n * (T * T) + n * (F * F) + 2 * (m * (g * g))) = 2 * (n * m * ((T - F - g) * (T - F - g))) + (2 * (n * m * ((T + F) * (T + F))) + (n * T + 2 * m * g) * (n * T + 2 * m * g) + (2 * m * g - n * F) * (2 * m * g - n * F)) := by grind
  have s1 : 0 ≤ n * m * ((T + F) * (T + F)) := Int.mul_nonneg (Int.mul_nonneg hn hm0) (sq_nn _)
  have s2' := sq_nn (n * T + 2 * m * g)
  have s3 := sq_nn (2 * m * g - n * F)
  have k2 : n * m * ((T - F - g) * (T - F - g)) ≤ (4 * m + n) * b := by
    have e : (4 * m + n) * (2 * b) = 2 * ((4 * m + n) * b) := by grind
    rw [i, e] at k1
    generalize n * m * ((T - F - g) * (T - F - g)) = z1 at *
    generalize n * m * ((T + F) * (T + F)) = z2 at *
    generalize (n * T + 2 * m * g) * (n * T + 2 * m * g) = z3 at *
    generalize (2 * m * g - n * F) * (2 * m * g - n * F) = z4 at *
    generalize (4 * m + n) * b = z5 at *
    omega
  have k3 := Int.mul_le_mul_of_nonneg_left k2 hn
  have e1 : n * (n * m * ((T - F - g) * (T - F - g))) = m * (((T - F - g) * n) * ((T - F - g) * n)) := by grind
  have e2 : n * ((4 * m + n) * b) = n * (4 * m + n) * b := by grind
  rw [e1, e2] at k3
  exact Int.le_of_mul_le_mul_left (Int.le_trans k3 hb) (by omega)
theorem r_DB {n b T F g L : Int} (hn : 0 ≤ n) (hT : n * (T * T) ≤ b) (hF : n * (F * F) ≤ b) (hg : n * (g * g) ≤ 4 * b) (hb : 16 * n * b ≤ L * L) : ((T - F - g) * n) * ((T - F - g) * n) ≤ L * L := by
  have i : 4 * (T * T) + 4 * (F * F) + 2 * (g * g) + (4 * (T * T) + 4 * (F * F) + 2 * (g * g)) = 2 * ((T - F - g) * (T - F - g)) + (2 * ((T + F) * (T + F)) + (2 * T + g) * (2 * T + g) + (2 * F - g) * (2 * F - g)) := by grind
  have s1 := sq_nn (T + F)
  have s2 := sq_nn (2 * T + g)
  have s3 := sq_nn (2 * F - g)
  have k : (T - F - g) * (T - F - g) ≤ 4 * (T * T) + 4 * (F * F) + 2 * (g * g) := by
    generalize (T - F - g) * (T - F - g) = z1 at *
    generalize (T + F) * (T + F) = z2 at *
    generalize (2 * T + g) * (2 * T + g) = z3 at *
    generalize (2 * F - g) * (2 * F - g) = z4 at *
    generalize T * T = z5 at *
    generalize F * F = z6 at *
    generalize g * g = z7 at *
    omega
  have k1 := Int.mul_le_mul_of_nonneg_left k hn
  have e0 : n * (4 * (T * T) + 4 * (F * F) + 2 * (g * g)) = 4 * (n * (T * T)) + 4 * (n * (F * F)) + 2 * (n * (g * g)) := by grind
  rw [e0] at k1
  have k2 : n * ((T - F - g) * (T - F - g)) ≤ 16 * b := by omega
  have k3 := Int.mul_le_mul_of_nonneg_left k2 hn
  have e1 : n * (n * ((T - F - g) * (T - F - g))) = ((T - F - g) * n) * ((T - F - g) * n) := by grind
  have e2 : n * (16 * b) = 16 * n * b := by grind
  rw [e1, e2] at k3
  exact Int.le_trans k3 hb
def qf (n : Nat) : Int := if n ≤ 39 then 34 else if n ≤ 52 then 33 else 30
def Gf (n : Nat) : Int := if n ≤ 39 then 4558600 else if n ≤ 52 then 4391900 else 3905000
def rB (n : Nat) : Nat → Int
  | 0 => 2000000 * (n : Int) + 9171429 * (100 - (n : Int)) + 60000000
  | t + 1 => (Gf n * rB n t + 32500000000000) / (100000 * qf n)
theorem tb_q : ∀ n : Nat, n < 101 → (1 ≤ n → 0 < qf n ∧ 1001000 * qf n ≤ 64000000 ∧ 1001 * (100 - (n : Int)) * (qf n + (n : Int)) ≤ Gf n ∧ 1001 * qf n * ((n : Int) + qf n) + 1000 * qf n * (100 - (n : Int)) + (n : Int) ≤ Gf n ∧ 100000 * qf n ≤ Gf n) := by decide +kernel
theorem tb_B : ∀ n : Nat, n < 101 → (1 ≤ n → ((1 ≤ 100 - (n : Int) ∧ (n : Int) * (4 * (100 - (n : Int)) + (n : Int)) * rB n 59 ≤ (100 - (n : Int)) * (2147483647 * 2147483647)) ∨ 16 * (n : Int) * rB n 59 ≤ 2147483647 * 2147483647) ∧ 4 * rB n 60 ≤ (n : Int) * (500000000 * 500000000)) := by decide +kernel
theorem rB_nn {n : Nat} (hn : n < 101) (h1 : 1 ≤ n) : ∀ t, 0 ≤ rB n t := by
  have q := tb_q n hn h1
  intro t
  induction t with
  | zero =>
    show 0 ≤ 2000000 * (n : Int) + 9171429 * (100 - (n : Int)) + 60000000
    omega
  | succ t ih =>
    have a : 0 ≤ Gf n * rB n t := Int.mul_nonneg (by omega) ih
    exact Int.ediv_nonneg (by omega) (by omega)
theorem rB_up {n : Nat} (hn : n < 101) (h1 : 1 ≤ n) (t : Nat) : rB n t ≤ rB n (t + 1) := by
  have q := tb_q n hn h1
  have a := Int.mul_le_mul_of_nonneg_right q.2.2.2.2 (rB_nn hn h1 t)
  refine Int.le_ediv_of_mul_le (by omega) ?_
  rw [Int.mul_comm]
  omega
theorem rB_le {n : Nat} (hn : n < 101) (h1 : 1 ≤ n) {s : Nat} : ∀ d, rB n s ≤ rB n (s + d) := by
  intro d
  induction d with
  | zero => exact Int.le_refl _
  | succ d ih => exact Int.le_trans ih (rB_up hn h1 (s + d))
/-- the invariant -/
def RI (n t : Nat) (x y g h : Int) : Prop := VV (n : Int) x y g h ≤ rB n t ∧ (n : Int) * (g * g) ≤ 4 * rB n t ∧ (n : Int) * (h * h) ≤ 4 * rB n t
theorem V_x {n x y g h b : Int} (hn : 0 ≤ n ∧ n ≤ 100) (hV : VV n x y g h ≤ b) : n * (x * x) ≤ b ∧ n * (y * y) ≤ b := by
  have a : 0 ≤ n * (x * x) := Int.mul_nonneg hn.1 (sq_nn _)
  have c : 0 ≤ n * (y * y) := Int.mul_nonneg hn.1 (sq_nn _)
  have d : 0 ≤ (100 - n) * (g * g + h * h) := Int.mul_nonneg (by omega) (Int.add_nonneg (sq_nn _) (sq_nn _))
  unfold VV at hV
  rw [Int.mul_add] at hV
  omega
theorem g_sq {n x g B B' : Int} (hn : 0 ≤ n) (h1 : n * (x * x) ≤ B) (h2 : n * ((x + g) * (x + g)) ≤ B') (hB : B ≤ B') : n * (g * g) ≤ 4 * B' := by
  have s : 0 ≤ n * ((x + g + x) * (x + g + x)) := Int.mul_nonneg hn (sq_nn _)
  have e : n * (g * g) + n * ((x + g + x) * (x + g + x)) = 2 * (n * ((x + g) * (x + g))) + 2 * (n * (x * x)) := by grind
  omega
theorem ri_step {n t : Nat} (hn : n < 101) (h1 : 1 ≤ n) {x y g h T T2 F F2 : Int} (hE : 16000 * (x - F).natAbs ≤ x.natAbs + 38720) (hE2 : 16000 * (y - F2).natAbs ≤ y.natAbs + 38720) (hT : T * T + T2 * T2 ≤ x * x + y * y) (hI : RI n t x y g h) : RI n (t + 1) (x + nG (n : Int) g T F) (y + nG (n : Int) h T2 F2) (nG (n : Int) g T F) (nG (n : Int) h T2 F2) := by
  have q := tb_q n hn h1
  have hn' : 0 ≤ (n : Int) ∧ (n : Int) ≤ 100 := by omega
  have s := r_step (g := g) (h := h) hn' (by omega) q.2.1 q.2.2.1 q.2.2.2.1 hE hE2 hT
  have a := Int.mul_le_mul_of_nonneg_left hI.1 (show 0 ≤ Gf n by omega)
  have v : VV (n : Int) (x + nG (n : Int) g T F) (y + nG (n : Int) h T2 F2) (nG (n : Int) g T F) (nG (n : Int) h T2 F2) ≤ rB n (t + 1) := by
    refine Int.le_ediv_of_mul_le (by omega) ?_
    rw [Int.mul_comm]
    omega
  have o := V_x hn' hI.1
  have o' := V_x hn' v
  exact ⟨v, g_sq hn'.1 o.1 o'.1 (rB_up hn h1 t), g_sq hn'.1 o.2 o'.2 (rB_up hn h1 t)⟩
theorem ri_D {n t : Nat} (hn : n < 101) (h1 : 1 ≤ n) (ht : t ≤ 59) {x y g h T F : Int} (hT : T * T ≤ x * x + y * y) (hF : F * F ≤ x * x + y * y) (hI : RI n t x y g h) : (-2147483647 ≤ (T - F - g) * (n : Int) ∧ (T - F - g) * (n : Int) ≤ 2147483647) ∧ (-2147483647 ≤ (T - F - h) * (n : Int) ∧ (T - F - h) * (n : Int) ≤ 2147483647) := by
  have hn' : 0 ≤ (n : Int) ∧ (n : Int) ≤ 100 := by omega
  have m := rB_le hn h1 (s := t) (59 - t)
  rw [show t + (59 - t) = 59 by omega] at m
  have g2 := sq_nn g
  have h2 := sq_nn h
  rcases (tb_B n hn h1).1 with c | c
  · have hV : (n : Int) * (x * x + y * y) + (100 - (n : Int)) * (g * g + h * h) ≤ rB n 59 := Int.le_trans hI.1 m
    exact ⟨sq_abs (by decide) (r_DA hn'.1 c.1 hV hT hF (by omega) c.2), sq_abs (by decide) (r_DA hn'.1 c.1 hV hT hF (by omega) c.2)⟩
  · have d : 0 ≤ (100 - (n : Int)) * (g * g + h * h) := Int.mul_nonneg (by omega) (Int.add_nonneg g2 h2)
    have hV : (n : Int) * (x * x + y * y) ≤ rB n 59 := by
      have := hI.1
      unfold VV at this
      omega
    have a := Int.le_trans (Int.mul_le_mul_of_nonneg_left hT hn'.1) hV
    have b := Int.le_trans (Int.mul_le_mul_of_nonneg_left hF hn'.1) hV
    exact ⟨sq_abs (by decide) (r_DB hn'.1 a b (by have := hI.2.1; omega) c), sq_abs (by decide) (r_DB hn'.1 a b (by have := hI.2.2; omega) c)⟩
def b5 (z : Int) : Prop := -500000000 ≤ z ∧ z ≤ 500000000
theorem r_b9 {n z b : Int} (hn : 1 ≤ n) (h : n * (z * z) ≤ b) (hb : b ≤ n * (500000000 * 500000000)) : b5 z := sq_abs (by decide) (Int.le_of_mul_le_mul_left (Int.le_trans h hb) (by omega))
theorem ri_b9 {n t : Nat} (hn : n < 101) (h1 : 1 ≤ n) (ht : t ≤ 60) {x y g h : Int} (hI : RI n t x y g h) : b5 x ∧ b5 y ∧ b5 g ∧ b5 h := by
  have m := rB_le hn h1 (s := t) (60 - t)
  rw [show t + (60 - t) = 60 by omega] at m
  have k := (tb_B n hn h1).2
  have nn := rB_nn hn h1 60
  have o := V_x (by omega) hI.1
  exact ⟨r_b9 (by omega) o.1 (by omega), r_b9 (by omega) o.2 (by omega), r_b9 (by omega) hI.2.1 (by omega), r_b9 (by omega) hI.2.2 (by omega)⟩
/-- the ball behind each tick -/
def rT1 (x y : Int) (w w1 : Nat) : Int := tX (tX x y (bk w)) (tY x y (bk w)) w1
def rT2 (x y : Int) (w w1 : Nat) : Int := tY (tX x y (bk w)) (tY x y (bk w)) w1
def rnx (n : Int) (w w1 : Nat) (s : Int × Int × Int × Int) : Int × Int × Int × Int := (s.1 + nG n s.2.2.1 (rT1 s.1 s.2.1 w w1) (rT1 s.1 s.2.1 w w), s.2.1 + nG n s.2.2.2 (rT2 s.1 s.2.1 w w1) (rT2 s.1 s.2.1 w w), nG n s.2.2.1 (rT1 s.1 s.2.1 w w1) (rT1 s.1 s.2.1 w w), nG n s.2.2.2 (rT2 s.1 s.2.1 w w1) (rT2 s.1 s.2.1 w w))
def rq (n : Int) (f : Nat → Int × Int) (s0 : Int × Int × Int × Int) : Nat → Int × Int × Int × Int
  | 0 => s0
  | t + 1 => rnx n (wy f t) (wy f (t + 1)) (rq n f s0 t)
theorem rT_len {x y : Int} {w w1 : Nat} (hw1 : w1 < 24) : rT1 x y w w1 * rT1 x y w w1 + rT2 x y w w1 * rT2 x y w w1 ≤ x * x + y * y := Int.le_trans (t_len hw1) (t_len (bk_b w))
/-- what a roll needs -/
def ROK (n : Int) (w w1 : Nat) (s : Int × Int × Int × Int) : Prop := (-2147483647 ≤ (rT1 s.1 s.2.1 w w1 - rT1 s.1 s.2.1 w w - s.2.2.1) * n ∧ (rT1 s.1 s.2.1 w w1 - rT1 s.1 s.2.1 w w - s.2.2.1) * n ≤ 2147483647) ∧ (-2147483647 ≤ (rT2 s.1 s.2.1 w w1 - rT2 s.1 s.2.1 w w - s.2.2.2) * n ∧ (rT2 s.1 s.2.1 w w1 - rT2 s.1 s.2.1 w w - s.2.2.2) * n ≤ 2147483647)
def B4 (s : Int × Int × Int × Int) : Prop := b5 s.1 ∧ b5 s.2.1 ∧ b5 s.2.2.1 ∧ b5 s.2.2.2
theorem rq_1 {n : Nat} (hn : n < 101) (h1 : 1 ≤ n) {f : Nat → Int × Int} (hf : FB f) {s0 : Int × Int × Int × Int} (h0 : RI n 0 s0.1 s0.2.1 s0.2.2.1 s0.2.2.2) : ∀ t, RI n t (rq n f s0 t).1 (rq n f s0 t).2.1 (rq n f s0 t).2.2.1 (rq n f s0 t).2.2.2 := by
  intro t
  induction t with
  | zero => exact h0
  | succ t ih =>
    have b := t_back (x := (rq n f s0 t).1) (y := (rq n f s0 t).2.1) (wy_b hf t)
    exact ri_step hn h1 b.1 b.2 (rT_len (wy_b hf (t + 1))) ih
/-- no rub: it goes on and on -/
theorem nG_0 (g T F : Int) : nG 0 g T F = g := by
  unfold nG
  rw [Int.mul_zero]
  exact Int.add_zero g
theorem rq_0 {f : Nat → Int × Int} {s0 : Int × Int × Int × Int} (hx : -1000 ≤ s0.1 ∧ s0.1 ≤ 1000) (hy : -1000 ≤ s0.2.1 ∧ s0.2.1 ≤ 1000) (hg : -3400 ≤ s0.2.2.1 ∧ s0.2.2.1 ≤ 3400) (hh : -3400 ≤ s0.2.2.2 ∧ s0.2.2.2 ≤ 3400) : ∀ t : Nat, t ≤ 60 → (-1000 - 3400 * (t : Int) ≤ (rq 0 f s0 t).1 ∧ (rq 0 f s0 t).1 ≤ 1000 + 3400 * (t : Int)) ∧ (-1000 - 3400 * (t : Int) ≤ (rq 0 f s0 t).2.1 ∧ (rq 0 f s0 t).2.1 ≤ 1000 + 3400 * (t : Int)) ∧ (rq 0 f s0 t).2.2.1 = s0.2.2.1 ∧ (rq 0 f s0 t).2.2.2 = s0.2.2.2 := by
  intro t
  induction t with
  | zero =>
    intro _
    have e : rq 0 f s0 0 = s0 := rfl
    rw [e]
    exact ⟨by omega, by omega, rfl, rfl⟩
  | succ t ih =>
    intro ht
    obtain ⟨i1, i2, i3, i4⟩ := ih (by omega)
    have e : rq 0 f s0 (t + 1) = rnx 0 (wy f t) (wy f (t + 1)) (rq 0 f s0 t) := rfl
    rw [e]
    unfold rnx
    rw [nG_0, nG_0, i3, i4]
    refine ⟨?_, ?_, rfl, rfl⟩
    · show -1000 - 3400 * ((t + 1 : Nat) : Int) ≤ (rq 0 f s0 t).1 + s0.2.2.1 ∧ (rq 0 f s0 t).1 + s0.2.2.1 ≤ 1000 + 3400 * ((t + 1 : Nat) : Int)
      omega
    · show -1000 - 3400 * ((t + 1 : Nat) : Int) ≤ (rq 0 f s0 t).2.1 + s0.2.2.2 ∧ (rq 0 f s0 t).2.1 + s0.2.2.2 ≤ 1000 + 3400 * ((t + 1 : Nat) : Int)
      omega
theorem g0_sq {a x c : Int} : 7 * ((c + (a - x)) * (c + (a - x))) ≤ 15 * (a * a) + 15 * (x * x) + 105 * (c * c) := by
  have i : 15 * (a * a) + 15 * (x * x) + 105 * (c * c) = 7 * ((c + (a - x)) * (c + (a - x))) + (7 * ((a + x) * (a + x)) + (a - 7 * c) * (a - 7 * c) + (x + 7 * c) * (x + 7 * c)) := by grind
  have s1 := sq_nn (a + x)
  have s2 := sq_nn (a - 7 * c)
  have s3 := sq_nn (x + 7 * c)
  omega
theorem rq_ok {n : Nat} (hn : n < 101) {f : Nat → Int × Int} (hf : FB f) {x y p : Int} {w : Nat} (hx : -1000 ≤ x ∧ x ≤ 1000) (hy : -1000 ≤ y ∧ y ≤ 1000) (hp : 0 ≤ p ∧ p ≤ 200) (hw : w < 24) : ∀ t : Nat, t ≤ 60 → B4 (rq (n : Int) f (x, y, Gx x y (wy f 1) p w, Gy x y (wy f 1) p w) t) ∧ (t ≤ 59 → ROK (n : Int) (wy f t) (wy f (t + 1)) (rq (n : Int) f (x, y, Gx x y (wy f 1) p w, Gy x y (wy f 1) p w) t)) := by
  have gb := G_b hx hy hp (wy_b hf 1) hw
  intro t ht
  by_cases h1 : 1 ≤ n
  · have i0 : RI n 0 x y (Gx x y (wy f 1) p w) (Gy x y (wy f 1) p w) := by
      have xx := sq_le (a := x) (b := 1000) (by omega)
      have yy := sq_le (a := y) (b := 1000) (by omega)
      have pp := sq_le (a := p) (b := 200) (by omega)
      have l1 := t_len (x := x) (y := y) (wy_b hf 1)
      have l2 := t_len (x := p) (y := 0) hw
      have a := g0_sq (a := tX x y (wy f 1)) (x := x) (c := tX p 0 w)
      have b := g0_sq (a := tY x y (wy f 1)) (x := y) (c := tY p 0 w)
      have n1 := sq_nn (Gx x y (wy f 1) p w)
      have n2 := sq_nn (Gy x y (wy f 1) p w)
      unfold Gx at n1 ⊢
      unfold Gy at n2 ⊢
      have s2 : (tX p 0 w + (tX x y (wy f 1) - x)) * (tX p 0 w + (tX x y (wy f 1) - x)) + (tY p 0 w + (tY x y (wy f 1) - y)) * (tY p 0 w + (tY x y (wy f 1) - y)) ≤ 9171429 := by omega
      have p2 : x * x + y * y ≤ 2000000 := by omega
      have k1 := Int.mul_le_mul_of_nonneg_left p2 (show 0 ≤ (n : Int) by omega)
      have k2 := Int.mul_le_mul_of_nonneg_left s2 (show 0 ≤ 100 - (n : Int) by omega)
      have e0 : rB n 0 = 2000000 * (n : Int) + 9171429 * (100 - (n : Int)) + 60000000 := rfl
      have k3 := Int.mul_le_mul_of_nonneg_left (show (tX p 0 w + (tX x y (wy f 1) - x)) * (tX p 0 w + (tX x y (wy f 1) - x)) ≤ 9171429 by omega) (show 0 ≤ (n : Int) by omega)
      have k4 := Int.mul_le_mul_of_nonneg_left (show (tY p 0 w + (tY x y (wy f 1) - y)) * (tY p 0 w + (tY x y (wy f 1) - y)) ≤ 9171429 by omega) (show 0 ≤ (n : Int) by omega)
      unfold RI VV
      rw [e0]
      refine ⟨?_, ?_, ?_⟩
      · omega
      · omega
      · omega
    have r := rq_1 hn h1 hf (s0 := (x, y, Gx x y (wy f 1) p w, Gy x y (wy f 1) p w)) i0 t
    refine ⟨ri_b9 hn h1 ht r, fun h59 => ?_⟩
    generalize rq (n : Int) f (x, y, Gx x y (wy f 1) p w, Gy x y (wy f 1) p w) t = s at r
    have lT := rT_len (x := s.1) (y := s.2.1) (w := wy f t) (wy_b hf (t + 1))
    have lF := rT_len (x := s.1) (y := s.2.1) (w := wy f t) (wy_b hf t)
    have m1 := sq_nn (rT1 s.1 s.2.1 (wy f t) (wy f (t + 1)))
    have m2 := sq_nn (rT2 s.1 s.2.1 (wy f t) (wy f (t + 1)))
    have m3 := sq_nn (rT1 s.1 s.2.1 (wy f t) (wy f t))
    have m4 := sq_nn (rT2 s.1 s.2.1 (wy f t) (wy f t))
    exact ⟨(ri_D hn h1 h59 (by omega) (by omega) r).1, (ri_D hn h1 h59 (by omega) (by omega) r).2⟩
  · have e : n = 0 := by omega
    subst e
    have r := rq_0 (f := f) (s0 := (x, y, Gx x y (wy f 1) p w, Gy x y (wy f 1) p w)) hx hy gb.1 gb.2 t ht
    have z : ((0 : Nat) : Int) = 0 := rfl
    rw [z]
    have r3 : (rq 0 f (x, y, Gx x y (wy f 1) p w, Gy x y (wy f 1) p w) t).2.2.1 = Gx x y (wy f 1) p w := r.2.2.1
    have r4 : (rq 0 f (x, y, Gx x y (wy f 1) p w, Gy x y (wy f 1) p w) t).2.2.2 = Gy x y (wy f 1) p w := r.2.2.2
    refine ⟨⟨⟨by omega, by omega⟩, ⟨by omega, by omega⟩, ⟨by rw [r3]; omega, by rw [r3]; omega⟩, ⟨by rw [r4]; omega, by rw [r4]; omega⟩⟩, fun _ => ?_⟩
    unfold ROK
    rw [Int.mul_zero, Int.mul_zero]
    exact ⟨by decide, by decide⟩
