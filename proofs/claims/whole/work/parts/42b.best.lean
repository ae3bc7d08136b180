/-- the best so far -/
def bs (C : Nat → Nat → Bool) : Nat → Option (Nat × Int)
  | 0 => none
  | n + 1 => if bt C ((24 + n) / 24) ((24 + n) % 24) = 0 then bs C n else match bs C n with
    | none => some (24 + n, nb C ((24 + n) / 24) ((24 + n) % 24))
    | some b => if nb C ((24 + n) / 24) ((24 + n) % 24) ≤ b.2 then some b else some (24 + n, nb C ((24 + n) / 24) ((24 + n) % 24))
theorem bs_b (C : Nat → Nat → Bool) : ∀ n b, bs C n = some b → (24 ≤ b.1 ∧ b.1 < 24 + n) ∧ 0 ≤ b.2 ∧ b.2 ≤ 9 := by
  intro n
  induction n with
  | zero => intro b h; exact absurd h (by intro z; cases z)
  | succ n ih =>
    intro b h
    have hb := nb_b C ((24 + n) / 24) ((24 + n) % 24)
    unfold bs at h
    by_cases q : bt C ((24 + n) / 24) ((24 + n) % 24) = 0
    · rw [if_pos q] at h
      have := ih b h
      exact ⟨⟨this.1.1, by omega⟩, this.2⟩
    · rw [if_neg q] at h
      cases e : bs C n with
      | none =>
        rw [e] at h
        have h2 := Option.some.inj h
        rw [← h2]
        exact ⟨⟨by show 24 ≤ 24 + n; omega, by show 24 + n < 24 + (n + 1); omega⟩, hb⟩
      | some c =>
        rw [e] at h
        have h3 := ih c e
        by_cases q2 : nb C ((24 + n) / 24) ((24 + n) % 24) ≤ c.2
        · have h2 : some c = some b := by rw [← h]; exact (if_pos q2).symm
          have h4 := Option.some.inj h2
          rw [← h4]
          exact ⟨⟨h3.1.1, by omega⟩, h3.2⟩
        · have h2 : some (24 + n, nb C ((24 + n) / 24) ((24 + n) % 24)) = some b := by rw [← h]; exact (if_neg q2).symm
          have h4 := Option.some.inj h2
          rw [← h4]
          exact ⟨⟨by show 24 ≤ 24 + n; omega, by show 24 + n < 24 + (n + 1); omega⟩, hb⟩
def eI : Option (Nat × Int) → Int
  | none => -6
  | some b => (b.1 : Int)
def eV : Option (Nat × Int) → Int
  | none => 0
  | some b => b.2
theorem lp_mA {C : Nat → Nat → Bool} {u : St} (hu : MC C u) {post : Int32 → St → Prop} {K : Int32 → Int32 → Int32 → Prop} (h : K (iI (cM C 1440 : Int)) (iI (eI (bs C 1440))) (iI (eV (bs C 1440)))) : ∀ n j, j + n = 1440 → wp_X11_all_L114 post K u (n + 1) (iI (cM C j : Int)) (iI (eI (bs C j))) (iI (eV (bs C j))) (iI ((24 + j : Nat) : Int)) := by
  intro n
  induction n with
  | zero =>
    intro j hj
    rw [show j = 1440 by omega]
    exact ⟨fun _ => h, fun z => absurd (by decide) z⟩
  | succ n ih =>
    intro j hj
    have c1 : ¬ (1464 : Int32) ≤ iI ((24 + j : Nat) : Int) := by
      intro q
      have := (iI_le (a := 1464) ⟨by decide, by decide⟩ ⟨by omega, by omega⟩).mp q
      omega
    have e1 : iI ((24 + j : Nat) : Int) + 1 = iI ((24 + (j + 1) : Nat) : Int) := iI_add _ 1
    have hin : vp_in (iI ((24 + j : Nat) : Int)) 1488 := iI_in (by omega) (by omega) (by decide)
    have hb := bt_b C ((24 + j) / 24) ((24 + j) % 24)
    have ev : gA u 19 (iI ((24 + j : Nat) : Int)).toNatClampNeg = 0 ↔ bt C ((24 + j) / 24) ((24 + j) % 24) = 0 := by
      rw [cl_n (n := 1488) (by omega) (by decide), hu _ (by omega), nI_iI]
      have := iI_eq (a := (bt C ((24 + j) / 24) ((24 + j) % 24) : Int)) (b := 0) ⟨by omega, by omega⟩ ⟨by decide, by decide⟩
      constructor
      · intro z
        have := this.mp z
        omega
      · intro z
        exact this.mpr (by omega)
    have nx := ih (j + 1) (by omega)
    have hn := nb_b C ((24 + j) / 24) ((24 + j) % 24)
    have ed : iI ((24 + j : Nat) : Int) / 24 = iI (((24 + j) / 24 : Nat) : Int) := by
      rw [show (24 : Int32) = iI 24 from rfl, iI_div ⟨by omega, by omega⟩ ⟨by decide, by decide⟩ (by decide), Int.tdiv_eq_ediv_of_nonneg (by omega)]
      congr 1
    have em : iI ((24 + j : Nat) : Int) - iI ((24 + j : Nat) : Int) / 24 * 24 = iI (((24 + j) % 24 : Nat) : Int) := by
      rw [show (24 : Int32) = iI 24 from rfl, rem_i (by omega) ⟨by omega, by omega⟩ (by decide) ⟨by decide, by decide⟩]
      congr 1
    refine ⟨fun z => absurd z c1, fun _ => ⟨hin, fun q x36 e36 => ?_, fun q x38 e38 => ?_⟩⟩
    · have q2 := ev.mp q
      rw [e36, e1]
      have b1 : bs C (j + 1) = bs C j := if_pos q2
      have b2 : cM C (j + 1) = cM C j := by
        show cM C j + bt C ((24 + j) / 24) ((24 + j) % 24) = _
        rw [q2, Nat.add_zero]
      rw [b1, b2] at nx
      exact nx
    · have q2 : ¬ bt C ((24 + j) / 24) ((24 + j) % 24) = 0 := fun z => q (ev.mpr z)
      have b2 : cM C (j + 1) = cM C j + 1 := by
        show cM C j + bt C ((24 + j) / 24) ((24 + j) % 24) = _
        rw [show bt C ((24 + j) / 24) ((24 + j) % 24) = 1 by omega]
      have f38 : x38 = iI (cM C (j + 1) : Int) := by
        rw [e38, b2]
        exact iI_add _ 1
      rw [em, ed, f38]
      refine k_nbM hu ⟨by omega, by omega⟩ (by omega) ?_
      cases e : bs C j with
      | none =>
        have b1 : bs C (j + 1) = some (24 + j, nb C ((24 + j) / 24) ((24 + j) % 24)) := by
          unfold bs
          rw [if_neg q2, e]
        rw [b1] at nx
        refine ⟨fun _ x43 e43 => ?_, fun z => absurd (by decide) z⟩
        rw [e43, e1]
        exact nx
      | some c =>
        have hc := bs_b C j c e
        have c0 : ¬ iI (eI (some c)) < 0 := by
          intro z
          have z2 := (iI_lt (a := (c.1 : Int)) (b := 0) ⟨by omega, by omega⟩ ⟨by decide, by decide⟩).mp z
          omega
        have ele : iI (nb C ((24 + j) / 24) ((24 + j) % 24)) ≤ iI (eV (some c)) ↔ nb C ((24 + j) / 24) ((24 + j) % 24) ≤ c.2 := iI_le (b := c.2) ⟨by omega, by omega⟩ ⟨by omega, by omega⟩
        refine ⟨fun z => absurd z c0, fun _ => ⟨fun z x46 e46 => ?_, fun z x48 e48 => ?_⟩⟩
        · have b1 : bs C (j + 1) = some c := by
            unfold bs
            rw [if_neg q2, e]
            exact if_pos (ele.mp z)
          rw [b1] at nx
          rw [e46, e1]
          exact nx
        · have b1 : bs C (j + 1) = some (24 + j, nb C ((24 + j) / 24) ((24 + j) % 24)) := by
            unfold bs
            rw [if_neg q2, e]
            exact if_neg (fun y => z (ele.mpr y))
          rw [b1] at nx
          rw [e48, e1]
          exact nx
