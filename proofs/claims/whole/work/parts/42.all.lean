/-! how many, and the safest -/
def cw (C : Nat → Nat → Bool) (q : Nat) : Nat → Nat
  | 0 => 0
  | n + 1 => cw C q n + bt C q n
theorem pc_row (C : Nat → Nat → Bool) (q : Nat) : pc8 (row (C q) 24 % 256) + pc8 (row (C q) 24 / 256 % 256) + pc8 (row (C q) 24 / 65536) = cw C q 24 := by
  have h : ∀ w, w < 24 → row (C q) 24 / 2 ^ w % 2 = bt C q w := row_bit (C q) 24
  generalize row (C q) 24 = x at h
  have e0 : pc8 (x % 256) = x % 2 + x / 2 % 2 + x / 4 % 2 + x / 8 % 2 + x / 16 % 2 + x / 32 % 2 + x / 64 % 2 + x / 128 % 2 := by
    unfold pc8
    rw [show x % 256 % 2 = x % 2 by omega, show x % 256 / 2 % 2 = x / 2 % 2 by omega, show x % 256 / 4 % 2 = x / 4 % 2 by omega, show x % 256 / 8 % 2 = x / 8 % 2 by omega, show x % 256 / 16 % 2 = x / 16 % 2 by omega, show x % 256 / 32 % 2 = x / 32 % 2 by omega, show x % 256 / 64 % 2 = x / 64 % 2 by omega, show x % 256 / 128 % 2 = x / 128 % 2 by omega]
  have e1 : pc8 (x / 256 % 256) = x / 256 % 2 + x / 512 % 2 + x / 1024 % 2 + x / 2048 % 2 + x / 4096 % 2 + x / 8192 % 2 + x / 16384 % 2 + x / 32768 % 2 := by
    unfold pc8
    rw [show x / 256 % 256 % 2 = x / 256 % 2 by omega, show x / 256 % 256 / 2 % 2 = x / 512 % 2 by omega, show x / 256 % 256 / 4 % 2 = x / 1024 % 2 by omega, show x / 256 % 256 / 8 % 2 = x / 2048 % 2 by omega, show x / 256 % 256 / 16 % 2 = x / 4096 % 2 by omega, show x / 256 % 256 / 32 % 2 = x / 8192 % 2 by omega, show x / 256 % 256 / 64 % 2 = x / 16384 % 2 by omega, show x / 256 % 256 / 128 % 2 = x / 32768 % 2 by omega]
  have e2 : pc8 (x / 65536) = x / 65536 % 2 + x / 131072 % 2 + x / 262144 % 2 + x / 524288 % 2 + x / 1048576 % 2 + x / 2097152 % 2 + x / 4194304 % 2 + x / 8388608 % 2 := by
    unfold pc8
    rw [show x / 65536 / 2 % 2 = x / 131072 % 2 by omega, show x / 65536 / 4 % 2 = x / 262144 % 2 by omega, show x / 65536 / 8 % 2 = x / 524288 % 2 by omega, show x / 65536 / 16 % 2 = x / 1048576 % 2 by omega, show x / 65536 / 32 % 2 = x / 2097152 % 2 by omega, show x / 65536 / 64 % 2 = x / 4194304 % 2 by omega, show x / 65536 / 128 % 2 = x / 8388608 % 2 by omega]
  have g0 : x % 2 = bt C q 0 := by have := h 0 (by decide); rw [Nat.pow_zero, Nat.div_one] at this; exact this
  rw [e0, e1, e2, g0, show x / 2 % 2 = bt C q 1 from h 1 (by decide), show x / 4 % 2 = bt C q 2 from h 2 (by decide), show x / 8 % 2 = bt C q 3 from h 3 (by decide), show x / 16 % 2 = bt C q 4 from h 4 (by decide), show x / 32 % 2 = bt C q 5 from h 5 (by decide), show x / 64 % 2 = bt C q 6 from h 6 (by decide), show x / 128 % 2 = bt C q 7 from h 7 (by decide), show x / 256 % 2 = bt C q 8 from h 8 (by decide), show x / 512 % 2 = bt C q 9 from h 9 (by decide), show x / 1024 % 2 = bt C q 10 from h 10 (by decide), show x / 2048 % 2 = bt C q 11 from h 11 (by decide), show x / 4096 % 2 = bt C q 12 from h 12 (by decide), show x / 8192 % 2 = bt C q 13 from h 13 (by decide), show x / 16384 % 2 = bt C q 14 from h 14 (by decide), show x / 32768 % 2 = bt C q 15 from h 15 (by decide), show x / 65536 % 2 = bt C q 16 from h 16 (by decide), show x / 131072 % 2 = bt C q 17 from h 17 (by decide), show x / 262144 % 2 = bt C q 18 from h 18 (by decide), show x / 524288 % 2 = bt C q 19 from h 19 (by decide), show x / 1048576 % 2 = bt C q 20 from h 20 (by decide), show x / 2097152 % 2 = bt C q 21 from h 21 (by decide), show x / 4194304 % 2 = bt C q 22 from h 22 (by decide), show x / 8388608 % 2 = bt C q 23 from h 23 (by decide)]
  simp only [cw]
  omega
def cX (C : Nat → Nat → Bool) : Nat → Nat
  | 0 => 0
  | m + 1 => cX C m + cw C (m + 1) 24
def cM (C : Nat → Nat → Bool) : Nat → Nat
  | 0 => 0
  | n + 1 => cM C n + bt C ((24 + n) / 24) ((24 + n) % 24)
theorem cM_s (C : Nat → Nat → Bool) (m : Nat) : ∀ w, w ≤ 24 → cM C (24 * m + w) = cM C (24 * m) + cw C (m + 1) w := by
  intro w
  induction w with
  | zero => intro _; rfl
  | succ w ih =>
    intro h
    show cM C (24 * m + w) + bt C ((24 + (24 * m + w)) / 24) ((24 + (24 * m + w)) % 24) = cM C (24 * m) + (cw C (m + 1) w + bt C (m + 1) w)
    rw [ih (by omega), show (24 + (24 * m + w)) / 24 = m + 1 by omega, show (24 + (24 * m + w)) % 24 = w by omega, Nat.add_assoc]
theorem cM_X (C : Nat → Nat → Bool) : ∀ m, cM C (24 * m) = cX C m := by
  intro m
  induction m with
  | zero => rfl
  | succ m ih =>
    show cM C (24 * m + 24) = cX C m + cw C (m + 1) 24
    rw [cM_s C m 24 (by decide), ih]
theorem k_bcR {C : Nat → Nat → Bool} {t : St} (ht : XC C t) {q : Nat} (hq : q < 62) {post : Int32 → Prop} (h : post (nI (cw C q 24))) : wp_J6_bitCount_0f7a4 (gA t 10 q) post := by
  have hl := row_lt (C q) 24
  rw [← pc_row] at h
  rw [ht q hq, show row (C q) 24 = row (C q) 24 % 256 + 256 * (row (C q) 24 / 256 % 256 + 256 * (row (C q) 24 / 65536)) by omega]
  refine k_bc (by omega) (by omega) (by omega) h
theorem lp_how {C : Nat → Nat → Bool} {t : St} (ht : XC C t) {post : Int32 → Prop} (h : post (nI (cX C 60))) : ∀ n m, m + n = 60 → wp_X1_howMany_L4 post (fun v11 => post v11) t (n + 1) (nI (cX C m)) (iI ((m + 1 : Nat) : Int)) := by
  intro n
  induction n with
  | zero =>
    intro m hm
    rw [show m = 60 by omega]
    exact ⟨fun _ => h, fun z => absurd (by decide) z⟩
  | succ n ih =>
    intro m hm
    have c1 : ¬ (60 : Int32) < iI ((m + 1 : Nat) : Int) := by
      intro q
      have := (iI_lt (a := 60) ⟨by decide, by decide⟩ ⟨by omega, by omega⟩).mp q
      omega
    have e1 : iI ((m + 1 : Nat) : Int) + 1 = iI ((m + 1 + 1 : Nat) : Int) := iI_add _ 1
    have hin : vp_in (iI ((m + 1 : Nat) : Int)) 62 := iI_in (by omega) (by omega) (by decide)
    refine ⟨fun z => absurd z c1, fun _ => ⟨hin, ?_⟩⟩
    rw [cl_n (n := 62) (by omega) (by decide)]
    refine k_bcR ht (by omega) (fun x7 e7 x9 e9 => ?_)
    rw [e7, e9, e1, nI_add]
    exact ih (m + 1) (by omega)
theorem k_how {C : Nat → Nat → Bool} {t : St} (ht : XC C t) {post : Int32 → Prop} (h : post (nI (cX C 60))) : wp_X1_howMany t post := ⟨61, lp_how ht h 60 0 rfl⟩
/-- the best so far -/
def bs (C : Nat → Nat → Bool) : Nat → Option (Nat × Int)
  | 0 => none
  | n + 1 => if bt C ((24 + n) / 24) ((24 + n) % 24) = 0 then bs C n else match bs C n with
    | none => some (24 + n, nb C ((24 + n) / 24) ((24 + n) % 24))
    | some b => if nb C ((24 + n) / 24) ((24 + n) % 24) ≤ b.2 then some b else some (24 + n, nb C ((24 + n) / 24) ((24 + n) % 24))
theorem bs_b (C : Nat → Nat → Bool) : ∀ n b, bs C n = some b → (24 ≤ b.1 ∧ b.1 < 24 + n) ∧ 0 ≤ b.2 ∧ b.2 ≤ 9 := by
  intro n
  induction n with
  | zero => intro b h; exact absurd h (by intro z; cases z)
  | succ n ih =>
    intro b h
    have hb := nb_b C ((24 + n) / 24) ((24 + n) % 24)
    unfold bs at h
    by_cases q : bt C ((24 + n) / 24) ((24 + n) % 24) = 0
    · rw [if_pos q] at h
      have := ih b h
      exact ⟨⟨this.1.1, by omega⟩, this.2⟩
    · rw [if_neg q] at h
      cases e : bs C n with
      | none =>
        rw [e] at h
        have h2 := Option.some.inj h
        rw [← h2]
        exact ⟨⟨by show 24 ≤ 24 + n; omega, by show 24 + n < 24 + (n + 1); omega⟩, hb⟩
      | some c =>
        rw [e] at h
        have h3 := ih c e
        by_cases q2 : nb C ((24 + n) / 24) ((24 + n) % 24) ≤ c.2
        · have h2 : some c = some b := by rw [← h]; exact (if_pos q2).symm
          have h4 := Option.some.inj h2
          rw [← h4]
          exact ⟨⟨h3.1.1, by omega⟩, h3.2⟩
        · have h2 : some (24 + n, nb C ((24 + n) / 24) ((24 + n) % 24)) = some b := by rw [← h]; exact (if_neg q2).symm
          have h4 := Option.some.inj h2
          rw [← h4]
          exact ⟨⟨by show 24 ≤ 24 + n; omega, by show 24 + n < 24 + (n + 1); omega⟩, hb⟩
def eI : Option (Nat × Int) → Int
  | none => -6
  | some b => (b.1 : Int)
def eV : Option (Nat × Int) → Int
  | none => 0
  | some b => b.2
theorem lp_mA {C : Nat → Nat → Bool} {u : St} (hu : MC C u) {post : Int32 → St → Prop} {K : Int32 → Int32 → Int32 → Prop} (h : K (iI (cM C 1440 : Int)) (iI (eI (bs C 1440))) (iI (eV (bs C 1440)))) : ∀ n j, j + n = 1440 → wp_X11_all_L114 post K u (n + 1) (iI (cM C j : Int)) (iI (eI (bs C j))) (iI (eV (bs C j))) (iI ((24 + j : Nat) : Int)) := by
  intro n
  induction n with
  | zero =>
    intro j hj
    rw [show j = 1440 by omega]
    exact ⟨fun _ => h, fun z => absurd (by decide) z⟩
  | succ n ih =>
    intro j hj
    have c1 : ¬ (1464 : Int32) ≤ iI ((24 + j : Nat) : Int) := by
      intro q
      have := (iI_le (a := 1464) ⟨by decide, by decide⟩ ⟨by omega, by omega⟩).mp q
      omega
    have e1 : iI ((24 + j : Nat) : Int) + 1 = iI ((24 + (j + 1) : Nat) : Int) := iI_add _ 1
    have hin : vp_in (iI ((24 + j : Nat) : Int)) 1488 := iI_in (by omega) (by omega) (by decide)
    have hb := bt_b C ((24 + j) / 24) ((24 + j) % 24)
    have ev : gA u 19 (iI ((24 + j : Nat) : Int)).toNatClampNeg = 0 ↔ bt C ((24 + j) / 24) ((24 + j) % 24) = 0 := by
      rw [cl_n (n := 1488) (by omega) (by decide), hu _ (by omega), nI_iI]
      have := iI_eq (a := (bt C ((24 + j) / 24) ((24 + j) % 24) : Int)) (b := 0) ⟨by omega, by omega⟩ ⟨by decide, by decide⟩
      constructor
      · intro z
        have := this.mp z
        omega
      · intro z
        exact this.mpr (by omega)
    have nx := ih (j + 1) (by omega)
    have hn := nb_b C ((24 + j) / 24) ((24 + j) % 24)
    have ed : iI ((24 + j : Nat) : Int) / 24 = iI (((24 + j) / 24 : Nat) : Int) := by
      rw [show (24 : Int32) = iI 24 from rfl, iI_div ⟨by omega, by omega⟩ ⟨by decide, by decide⟩ (by decide), Int.tdiv_eq_ediv_of_nonneg (by omega)]
      congr 1
    have em : iI ((24 + j : Nat) : Int) - iI ((24 + j : Nat) : Int) / 24 * 24 = iI (((24 + j) % 24 : Nat) : Int) := by
      rw [show (24 : Int32) = iI 24 from rfl, rem_i (by omega) ⟨by omega, by omega⟩ (by decide) ⟨by decide, by decide⟩]
      congr 1
    refine ⟨fun z => absurd z c1, fun _ => ⟨hin, fun q x36 e36 => ?_, fun q x38 e38 => ?_⟩⟩
    · have q2 := ev.mp q
      rw [e36, e1]
      have b1 : bs C (j + 1) = bs C j := if_pos q2
      have b2 : cM C (j + 1) = cM C j := by
        show cM C j + bt C ((24 + j) / 24) ((24 + j) % 24) = _
        rw [q2, Nat.add_zero]
      rw [b1, b2] at nx
      exact nx
    · have q2 : ¬ bt C ((24 + j) / 24) ((24 + j) % 24) = 0 := fun z => q (ev.mpr z)
      have b2 : cM C (j + 1) = cM C j + 1 := by
        show cM C j + bt C ((24 + j) / 24) ((24 + j) % 24) = _
        rw [show bt C ((24 + j) / 24) ((24 + j) % 24) = 1 by omega]
      have f38 : x38 = iI (cM C (j + 1) : Int) := by
        rw [e38, b2]
        exact iI_add _ 1
      rw [em, ed, f38]
      refine k_nbM hu ⟨by omega, by omega⟩ (by omega) ?_
      cases e : bs C j with
      | none =>
        have b1 : bs C (j + 1) = some (24 + j, nb C ((24 + j) / 24) ((24 + j) % 24)) := by
          unfold bs
          rw [if_neg q2, e]
        rw [b1] at nx
        refine ⟨fun _ x43 e43 => ?_, fun z => absurd (by decide) z⟩
        rw [e43, e1]
        exact nx
      | some c =>
        have hc := bs_b C j c e
        have c0 : ¬ iI (eI (some c)) < 0 := by
          intro z
          have z2 := (iI_lt (a := (c.1 : Int)) (b := 0) ⟨by omega, by omega⟩ ⟨by decide, by decide⟩).mp z
          omega
        have ele : iI (nb C ((24 + j) / 24) ((24 + j) % 24)) ≤ iI (eV (some c)) ↔ nb C ((24 + j) / 24) ((24 + j) % 24) ≤ c.2 := iI_le ⟨by omega, by omega⟩ ⟨by omega, by omega⟩
        refine ⟨fun z => absurd z c0, fun _ => ⟨fun z x46 e46 => ?_, fun z x48 e48 => ?_⟩⟩
        · have b1 : bs C (j + 1) = some c := by
            unfold bs
            rw [if_neg q2, e]
            exact if_pos (ele.mp z)
          rw [b1] at nx
          rw [e46, e1]
          exact nx
        · have b1 : bs C (j + 1) = some (24 + j, nb C ((24 + j) / 24) ((24 + j) % 24)) := by
            unfold bs
            rw [if_neg q2, e]
            exact if_neg (fun y => z (ele.mpr y))
          rw [b1] at nx
          rw [e48, e1]
          exact nx
