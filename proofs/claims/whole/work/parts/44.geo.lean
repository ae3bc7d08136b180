/-! lines that meet -/
def sg (z : Int) : Int := if 0 < z then 1 else if z < 0 then -1 else 0
theorem sg_c (z : Int) : (0 < z ∧ sg z = 1) ∨ (z < 0 ∧ sg z = -1) ∨ (z = 0 ∧ sg z = 0) := by
  unfold sg
  by_cases h : 0 < z
  · rw [if_pos h]; exact .inl ⟨h, rfl⟩
  · rw [if_neg h]
    by_cases h2 : z < 0
    · rw [if_pos h2]; exact .inr (.inl ⟨h2, rfl⟩)
    · rw [if_neg h2]; exact .inr (.inr ⟨by omega, rfl⟩)
def cr3 (ax ay bx bz cx cy : Int) : Int := (bx - ax) * (cy - ay) - (bz - ay) * (cx - ax)
abbrev AC (P Q : Int) : Prop := ¬ (0 < P ∧ 0 < Q) ∧ ¬ (P < 0 ∧ Q < 0)
abbrev SPN (a b c d : Int) : Prop := ¬ (c < a ∧ c < b ∧ d < a ∧ d < b) ∧ ¬ (a < c ∧ a < d ∧ b < c ∧ b < d)
abbrev BT (v a b : Int) : Prop := (a ≤ v ∧ v ≤ b) ∨ (b ≤ v ∧ v ≤ a)
theorem g_cv {R S P Q a b c d : Int} (hR : 0 ≤ R) (hS : S ≤ 0) (hQ : 0 ≤ Q) (hP : P ≤ 0) (hD : R - S = Q - P) (h0 : 0 < R - S) (h : R * b - S * a = Q * c - P * d) : ¬ (a < c ∧ a < d ∧ b < c ∧ b < d) := by
  intro ⟨h1, h2, h3, h4⟩
  obtain ⟨m, m1, m2, m3, m4⟩ : ∃ m : Int, a ≤ m ∧ b ≤ m ∧ m + 1 ≤ c ∧ m + 1 ≤ d := by
    by_cases q : a ≤ b
    · exact ⟨b, by omega, by omega, by omega, by omega⟩
    · exact ⟨a, by omega, by omega, by omega, by omega⟩
  have i1 : R * b ≤ R * m := Int.mul_le_mul_of_nonneg_left m2 hR
  have i2 : (-S) * a ≤ (-S) * m := Int.mul_le_mul_of_nonneg_left m1 (by omega)
  have i3 : Q * (m + 1) ≤ Q * c := Int.mul_le_mul_of_nonneg_left m3 hQ
  have i4 : (-P) * (m + 1) ≤ (-P) * d := Int.mul_le_mul_of_nonneg_left m4 (by omega)
  have e : (R - S) * m = (Q - P) * m := by rw [hD]
  rw [Int.sub_mul, Int.sub_mul] at e
  simp only [Int.neg_mul, Int.mul_add, Int.mul_one] at i2 i3 i4
  omega
theorem g_tc {u u' R S : Int} (h : u * S = u' * R) (hR : 0 < R) (hS : 0 < S) (hb : (u ≤ 0 ∧ 0 ≤ u') ∨ (u' ≤ 0 ∧ 0 ≤ u)) : u = 0 := by
  by_cases q : u < 0
  · have h1 := Int.mul_neg_of_neg_of_pos q hS
    have h2 : 0 ≤ u' * R := Int.mul_nonneg (by omega) (by omega)
    omega
  · by_cases q2 : 0 < u
    · have h1 := Int.mul_pos q2 hS
      have h2 : 0 ≤ (-u') * R := Int.mul_nonneg (by omega) (by omega)
      rw [Int.neg_mul] at h2
      omega
    · omega
theorem id_x (ax ay bx bz cx cy dx dy : Int) : (ax - cx) * cr3 cx cy dx dy bx bz - (bx - cx) * cr3 cx cy dx dy ax ay = (dx - cx) * cr3 ax ay bx bz cx cy := by
  unfold cr3
  grind
theorem id_y (ax ay bx bz cx cy dx dy : Int) : (ay - cy) * cr3 cx cy dx dy bx bz - (bz - cy) * cr3 cx cy dx dy ax ay = (dy - cy) * cr3 ax ay bx bz cx cy := by
  unfold cr3
  grind
theorem id_s (ax ay bx bz cx cy : Int) : cr3 bx bz ax ay cx cy = - cr3 ax ay bx bz cx cy := by
  unfold cr3
  grind
theorem id_D (ax ay bx bz cx cy dx dy : Int) : cr3 cx cy dx dy ax ay - cr3 cx cy dx dy bx bz = cr3 ax ay bx bz dx dy - cr3 ax ay bx bz cx cy := by
  unfold cr3
  grind
theorem id_px (ax ay bx bz cx cy dx dy : Int) : cr3 cx cy dx dy ax ay * bx - cr3 cx cy dx dy bx bz * ax = cr3 ax ay bx bz dx dy * cx - cr3 ax ay bx bz cx cy * dx := by
  unfold cr3
  grind
theorem id_py (ax ay bx bz cx cy dx dy : Int) : cr3 cx cy dx dy ax ay * bz - cr3 cx cy dx dy bx bz * ay = cr3 ax ay bx bz dx dy * cy - cr3 ax ay bx bz cx cy * dy := by
  unfold cr3
  grind
theorem g_touch {ax ay bx bz cx cy : Int} (dx dy : Int) (hP : cr3 ax ay bx bz cx cy = 0) (hx : BT cx ax bx) (hy : BT cy ay bz) : AC (cr3 cx cy dx dy ax ay) (cr3 cx cy dx dy bx bz) := by
  have ix := id_x ax ay bx bz cx cy dx dy
  have iy := id_y ax ay bx bz cx cy dx dy
  rw [hP, Int.mul_zero] at ix iy
  have z : ax - cx = 0 → ay - cy = 0 → cr3 cx cy dx dy ax ay = 0 := by
    intro a b
    unfold cr3
    rw [a, b, Int.mul_zero, Int.mul_zero]
    rfl
  refine ⟨fun h => ?_, fun h => ?_⟩
  · have u := g_tc (u := ax - cx) (u' := bx - cx) (R := cr3 cx cy dx dy ax ay) (S := cr3 cx cy dx dy bx bz) (by omega) h.1 h.2 (by omega)
    have v := g_tc (u := ay - cy) (u' := bz - cy) (R := cr3 cx cy dx dy ax ay) (S := cr3 cx cy dx dy bx bz) (by omega) h.1 h.2 (by omega)
    have := z u v
    omega
  · have u := g_tc (u := ax - cx) (u' := bx - cx) (R := -cr3 cx cy dx dy ax ay) (S := -cr3 cx cy dx dy bx bz) (by rw [Int.mul_neg, Int.mul_neg]; omega) (by omega) (by omega) (by omega)
    have v := g_tc (u := ay - cy) (u' := bz - cy) (R := -cr3 cx cy dx dy ax ay) (S := -cr3 cx cy dx dy bx bz) (by rw [Int.mul_neg, Int.mul_neg]; omega) (by omega) (by omega) (by omega)
    have := z u v
    omega
theorem g_bt {X t Y w : Int} (hX : 0 < X) (h0 : 0 ≤ t) (h1 : t ≤ X) (h : X * w = Y * t) : (0 ≤ Y → 0 ≤ w ∧ w ≤ Y) ∧ (Y ≤ 0 → Y ≤ w ∧ w ≤ 0) := by
  refine ⟨fun hY => ⟨?_, ?_⟩, fun hY => ⟨?_, ?_⟩⟩
  · by_cases q : 0 ≤ w
    · exact q
    · have a := Int.mul_neg_of_neg_of_pos (show w < 0 by omega) hX
      have b := Int.mul_nonneg hY h0
      rw [Int.mul_comm] at a
      omega
  · by_cases q : w ≤ Y
    · exact q
    · have a := Int.mul_lt_mul_of_pos_left (show Y < w by omega) hX
      have b := Int.mul_le_mul_of_nonneg_left h1 hY
      rw [Int.mul_comm X Y] at a
      omega
  · by_cases q : Y ≤ w
    · exact q
    · have a := Int.mul_lt_mul_of_pos_left (show w < Y by omega) hX
      have b := Int.mul_le_mul_of_nonneg_left h1 (show 0 ≤ -Y by omega)
      rw [Int.mul_comm X Y] at a
      rw [Int.neg_mul, Int.neg_mul] at b
      omega
  · by_cases q : w ≤ 0
    · exact q
    · have a := Int.mul_pos hX (show 0 < w by omega)
      have b := Int.mul_nonneg (show 0 ≤ -Y by omega) h0
      rw [Int.neg_mul] at b
      omega
theorem g_on {ax ay bx bz zx zy : Int} (hne : ax ≠ bx) (h : cr3 ax ay bx bz zx zy = 0) (hz : BT zx ax bx) : BT zy ay bz := by
  unfold cr3 at h
  by_cases q : ax < bx
  · have g := g_bt (X := bx - ax) (t := zx - ax) (Y := bz - ay) (w := zy - ay) (by omega) (by omega) (by omega) (by omega)
    by_cases y : 0 ≤ bz - ay
    · have := g.1 y
      omega
    · have := g.2 (by omega)
      omega
  · have e1 : (ax - bx) * (zy - ay) = (bz - ay) * (ax - zx) := by
      rw [show ax - bx = -(bx - ax) by omega, show ax - zx = -(zx - ax) by omega, Int.neg_mul, Int.mul_neg]
      omega
    have g := g_bt (X := ax - bx) (t := ax - zx) (Y := bz - ay) (w := zy - ay) (by omega) (by omega) (by omega) e1
    by_cases y : 0 ≤ bz - ay
    · have := g.1 y
      omega
    · have := g.2 (by omega)
      omega
theorem g_v {ay bz ax cx : Int} (hne : ay ≠ bz) (h : (bz - ay) * (cx - ax) = 0) : cx = ax := by
  rcases Int.mul_eq_zero.mp h with q | q
  · omega
  · omega
theorem g_box {ax ay bx bz cx cy dx dy : Int} (hP : cr3 ax ay bx bz cx cy = 0) (hQ : cr3 ax ay bx bz dx dy = 0) (hR : cr3 cx cy dx dy ax ay = 0) (hS : cr3 cx cy dx dy bx bz = 0) (sx : SPN ax bx cx dx) (sy : SPN ay bz cy dy) : (BT cx ax bx ∧ BT cy ay bz) ∨ (BT dx ax bx ∧ BT dy ay bz) ∨ (BT ax cx dx ∧ BT ay cy dy) ∨ (BT bx cx dx ∧ BT bz cy dy) := by
  by_cases h1 : ax = bx
  · by_cases h2 : ay = bz
    · exact .inr (.inr (.inl ⟨by omega, by omega⟩))
    · have c0 : cx = ax := by
        unfold cr3 at hP
        rw [show bx - ax = 0 by omega, Int.zero_mul] at hP
        exact g_v h2 (by omega)
      have d0 : dx = ax := by
        unfold cr3 at hQ
        rw [show bx - ax = 0 by omega, Int.zero_mul] at hQ
        exact g_v h2 (by omega)
      have y4 : BT cy ay bz ∨ BT dy ay bz ∨ BT ay cy dy ∨ BT bz cy dy := by omega
      rcases y4 with y | y | y | y
      · exact .inl ⟨by omega, y⟩
      · exact .inr (.inl ⟨by omega, y⟩)
      · exact .inr (.inr (.inl ⟨by omega, y⟩))
      · exact .inr (.inr (.inr ⟨by omega, y⟩))
  · by_cases h2 : cx = dx
    · have x1 : BT cx ax bx := by omega
      exact .inl ⟨x1, g_on h1 hP x1⟩
    · have x4 : BT cx ax bx ∨ BT dx ax bx ∨ BT ax cx dx ∨ BT bx cx dx := by omega
      rcases x4 with x | x | x | x
      · exact .inl ⟨x, g_on h1 hP x⟩
      · exact .inr (.inl ⟨x, g_on h1 hQ x⟩)
      · exact .inr (.inr (.inl ⟨x, g_on h2 hR x⟩))
      · exact .inr (.inr (.inr ⟨x, g_on h2 hS x⟩))
/-- from the crossing to the spans, one coordinate -/
theorem g_span {R S P Q a b c d : Int} (h1 : AC P Q) (h2 : AC R S) (hD : R - S = Q - P) (h0 : R - S ≠ 0) (h : R * b - S * a = Q * c - P * d) : SPN a b c d := by
  by_cases q : 0 < R - S
  · have u := g_cv (R := R) (S := S) (P := P) (Q := Q) (a := a) (b := b) (c := c) (d := d) (by omega) (by omega) (by omega) (by omega) hD q h
    have v := g_cv (R := Q) (S := P) (P := S) (Q := R) (a := d) (b := c) (c := b) (d := a) (by omega) (by omega) (by omega) (by omega) hD.symm (by omega) h.symm
    exact ⟨fun z => v ⟨z.2.2.2, z.2.2.1, z.2.1, z.1⟩, u⟩
  · have h' : (-R) * b - (-S) * a = (-Q) * c - (-P) * d := by
      rw [Int.neg_mul, Int.neg_mul, Int.neg_mul, Int.neg_mul]
      omega
    have u := g_cv (R := -R) (S := -S) (P := -P) (Q := -Q) (a := a) (b := b) (c := c) (d := d) (by omega) (by omega) (by omega) (by omega) (by omega) (by omega) h'
    have v := g_cv (R := -Q) (S := -P) (P := -S) (Q := -R) (a := d) (b := c) (c := b) (d := a) (by omega) (by omega) (by omega) (by omega) (by omega) (by omega) h'.symm
    exact ⟨fun z => v ⟨z.2.2.2, z.2.2.1, z.2.1, z.1⟩, u⟩
