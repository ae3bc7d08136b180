theorem pc_row (C : Nat → Nat → Bool) (q : Nat) : pc8 (row (C q) 24 % 256) + pc8 (row (C q) 24 / 256 % 256) + pc8 (row (C q) 24 / 65536) = cw C q 24 := by
  have h : ∀ w, w < 24 → row (C q) 24 / 2 ^ w % 2 = bt C q w := row_bit (C q) 24
  generalize row (C q) 24 = x at h
  have g0 : x % 2 = bt C q 0 := by have := h 0 (by decide); rw [Nat.pow_zero, Nat.div_one] at this; exact this
  rw [pcA, pcB, pcC, g0, show x / 2 % 2 = bt C q 1 from h 1 (by decide), show x / 4 % 2 = bt C q 2 from h 2 (by decide), show x / 8 % 2 = bt C q 3 from h 3 (by decide), show x / 16 % 2 = bt C q 4 from h 4 (by decide), show x / 32 % 2 = bt C q 5 from h 5 (by decide), show x / 64 % 2 = bt C q 6 from h 6 (by decide), show x / 128 % 2 = bt C q 7 from h 7 (by decide), show x / 256 % 2 = bt C q 8 from h 8 (by decide), show x / 512 % 2 = bt C q 9 from h 9 (by decide), show x / 1024 % 2 = bt C q 10 from h 10 (by decide), show x / 2048 % 2 = bt C q 11 from h 11 (by decide), show x / 4096 % 2 = bt C q 12 from h 12 (by decide), show x / 8192 % 2 = bt C q 13 from h 13 (by decide), show x / 16384 % 2 = bt C q 14 from h 14 (by decide), show x / 32768 % 2 = bt C q 15 from h 15 (by decide), show x / 65536 % 2 = bt C q 16 from h 16 (by decide), show x / 131072 % 2 = bt C q 17 from h 17 (by decide), show x / 262144 % 2 = bt C q 18 from h 18 (by decide), show x / 524288 % 2 = bt C q 19 from h 19 (by decide), show x / 1048576 % 2 = bt C q 20 from h 20 (by decide), show x / 2097152 % 2 = bt C q 21 from h 21 (by decide), show x / 4194304 % 2 = bt C q 22 from h 22 (by decide), show x / 8388608 % 2 = bt C q 23 from h 23 (by decide)]
  clear g0 h
  simp only [cw]
  omega
def cX (C : Nat → Nat → Bool) : Nat → Nat
  | 0 => 0
  | m + 1 => cX C m + cw C (m + 1) 24
def cM (C : Nat → Nat → Bool) : Nat → Nat
  | 0 => 0
  | n + 1 => cM C n + bt C ((24 + n) / 24) ((24 + n) % 24)
theorem cM_s (C : Nat → Nat → Bool) (m : Nat) : ∀ w, w ≤ 24 → cM C (24 * m + w) = cM C (24 * m) + cw C (m + 1) w := by
  intro w
  induction w with
  | zero => intro _; rfl
  | succ w ih =>
    intro h
    show cM C (24 * m + w) + bt C ((24 + (24 * m + w)) / 24) ((24 + (24 * m + w)) % 24) = cM C (24 * m) + (cw C (m + 1) w + bt C (m + 1) w)
    rw [ih (by omega), show (24 + (24 * m + w)) / 24 = m + 1 by omega, show (24 + (24 * m + w)) % 24 = w by omega, Nat.add_assoc]
theorem cM_X (C : Nat → Nat → Bool) : ∀ m, cM C (24 * m) = cX C m := by
  intro m
  induction m with
  | zero => rfl
  | succ m ih =>
    show cM C (24 * m + 24) = cX C m + cw C (m + 1) 24
    rw [cM_s C m 24 (by decide), ih]
theorem k_bcR {C : Nat → Nat → Bool} {t : St} (ht : XC C t) {q : Nat} (hq : q < 62) {post : Int32 → Prop} (h : post (nI (cw C q 24))) : wp_J6_bitCount_0f7a4 (gA t 10 q) post := by
  have hl := row_lt (C q) 24
  rw [← pc_row] at h
  rw [ht q hq, show row (C q) 24 = row (C q) 24 % 256 + 256 * (row (C q) 24 / 256 % 256 + 256 * (row (C q) 24 / 65536)) by omega]
  refine k_bc (by omega) (by omega) (by omega) h
theorem lp_how {C : Nat → Nat → Bool} {t : St} (ht : XC C t) {post : Int32 → Prop} (h : post (nI (cX C 60))) : ∀ n m, m + n = 60 → wp_X1_howMany_L4 post (fun v11 => post v11) t (n + 1) (nI (cX C m)) (iI ((m + 1 : Nat) : Int)) := by
  intro n
  induction n with
  | zero =>
    intro m hm
    rw [show m = 60 by omega]
    exact ⟨fun _ => h, fun z => absurd (by decide) z⟩
  | succ n ih =>
    intro m hm
    have c1 : ¬ (60 : Int32) < iI ((m + 1 : Nat) : Int) := by
      intro q
      have := (iI_lt (a := 60) ⟨by decide, by decide⟩ ⟨by omega, by omega⟩).mp q
      omega
    have e1 : iI ((m + 1 : Nat) : Int) + 1 = iI ((m + 1 + 1 : Nat) : Int) := iI_add _ 1
    have hin : vp_in (iI ((m + 1 : Nat) : Int)) 62 := iI_in (by omega) (by omega) (by decide)
    refine ⟨fun z => absurd z c1, fun _ => ⟨hin, ?_⟩⟩
    rw [cl_n (n := 62) (by omega) (by decide)]
    refine k_bcR ht (by omega) (fun x7 e7 x9 e9 => ?_)
    rw [e7, e9, e1, nI_add]
    exact ih (m + 1) (by omega)
theorem k_how {C : Nat → Nat → Bool} {t : St} (ht : XC C t) {post : Int32 → Prop} (h : post (nI (cX C 60))) : wp_X1_howMany t post := ⟨61, lp_how ht h 60 0 rfl⟩
