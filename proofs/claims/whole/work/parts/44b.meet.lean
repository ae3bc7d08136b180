theorem sg_0 {z : Int} : sg z = 0 ↔ z = 0 := by
  rcases sg_c z with ⟨q, e⟩ | ⟨q, e⟩ | ⟨q, e⟩ <;> rw [e] <;> omega
theorem sg_ac {P Q : Int} (h : ¬ sg P = sg Q) : AC P Q := by
  have a := sg_c P
  have b := sg_c Q
  omega
theorem sg_eq {P Q : Int} (h : sg P = sg Q) (h2 : AC P Q) : P = 0 ∧ Q = 0 := by
  have a := sg_c P
  have b := sg_c Q
  omega
theorem ac_0 {P Q : Int} (h : P = 0) : AC P Q := ⟨fun z => by omega, fun z => by omega⟩
theorem ac_0' {P Q : Int} (h : Q = 0) : AC P Q := ⟨fun z => by omega, fun z => by omega⟩
theorem ac_n {P Q : Int} (h : AC (-P) (-Q)) : AC P Q := ⟨fun z => h.2 ⟨by omega, by omega⟩, fun z => h.1 ⟨by omega, by omega⟩⟩
theorem sp_c {a b c d : Int} (h : BT c a b) : SPN a b c d := ⟨fun z => by omega, fun z => by omega⟩
theorem sp_d {a b c d : Int} (h : BT d a b) : SPN a b c d := ⟨fun z => by omega, fun z => by omega⟩
theorem sp_a {a b c d : Int} (h : BT a c d) : SPN a b c d := ⟨fun z => by omega, fun z => by omega⟩
theorem sp_b {a b c d : Int} (h : BT b c d) : SPN a b c d := ⟨fun z => by omega, fun z => by omega⟩
theorem sg_df {P Q : Int} (h : ¬ sg P = sg Q) : Q - P ≠ 0 := fun z => h (by rw [show Q = P by omega])
abbrev MM (ax ay bx bz cx cy dx dy : Int) : Prop := (¬ sg (cr3 ax ay bx bz cx cy) = sg (cr3 ax ay bx bz dx dy) ∧ ¬ sg (cr3 cx cy dx dy ax ay) = sg (cr3 cx cy dx dy bx bz)) ∨ (sg (cr3 ax ay bx bz cx cy) = 0 ∧ BT cx ax bx ∧ BT cy ay bz) ∨ (sg (cr3 ax ay bx bz dx dy) = 0 ∧ BT dx ax bx ∧ BT dy ay bz) ∨ (sg (cr3 cx cy dx dy ax ay) = 0 ∧ BT ax cx dx ∧ BT ay cy dy) ∨ (sg (cr3 cx cy dx dy bx bz) = 0 ∧ BT bx cx dx ∧ BT bz cy dy)
abbrev XM (ax ay bx bz cx cy dx dy : Int) : Prop := SPN ax bx cx dx ∧ SPN ay bz cy dy ∧ AC (cr3 ax ay bx bz cx cy) (cr3 ax ay bx bz dx dy) ∧ AC (cr3 cx cy dx dy ax ay) (cr3 cx cy dx dy bx bz)
theorem meet_to {ax ay bx bz cx cy dx dy : Int} (h : MM ax ay bx bz cx cy dx dy) : XM ax ay bx bz cx cy dx dy := by
  have hD := id_D ax ay bx bz cx cy dx dy
  rcases h with ⟨h1, h2⟩ | ⟨h1, h2, h3⟩ | ⟨h1, h2, h3⟩ | ⟨h1, h2, h3⟩ | ⟨h1, h2, h3⟩
  · have a1 := sg_ac h1
    have a2 := sg_ac h2
    have h0 := sg_df h1
    rw [← hD] at h0
    exact ⟨g_span a1 a2 hD h0 (id_px ax ay bx bz cx cy dx dy), g_span a1 a2 hD h0 (id_py ax ay bx bz cx cy dx dy), a1, a2⟩
  · exact ⟨sp_c h2, sp_c h3, ac_0 (sg_0.mp h1), g_touch dx dy (sg_0.mp h1) h2 h3⟩
  · have t := g_touch cx cy (sg_0.mp h1) h2 h3
    rw [id_s cx cy dx dy ax ay, id_s cx cy dx dy bx bz] at t
    exact ⟨sp_d h2, sp_d h3, ac_0' (sg_0.mp h1), ac_n t⟩
  · exact ⟨sp_a h2, sp_a h3, g_touch bx bz (sg_0.mp h1) h2 h3, ac_0 (sg_0.mp h1)⟩
  · have t := g_touch ax ay (sg_0.mp h1) h2 h3
    rw [id_s ax ay bx bz cx cy, id_s ax ay bx bz dx dy] at t
    exact ⟨sp_b h2, sp_b h3, ac_n t, ac_0' (sg_0.mp h1)⟩
theorem meet_of {ax ay bx bz cx cy dx dy : Int} (h : XM ax ay bx bz cx cy dx dy) : MM ax ay bx bz cx cy dx dy := by
  have hD := id_D ax ay bx bz cx cy dx dy
  obtain ⟨h1, h2, h3, h4⟩ := h
  by_cases q1 : ¬ sg (cr3 ax ay bx bz cx cy) = sg (cr3 ax ay bx bz dx dy) ∧ ¬ sg (cr3 cx cy dx dy ax ay) = sg (cr3 cx cy dx dy bx bz)
  · exact .inl q1
  · have z : (cr3 ax ay bx bz cx cy = 0 ∧ cr3 ax ay bx bz dx dy = 0) ∧ (cr3 cx cy dx dy ax ay = 0 ∧ cr3 cx cy dx dy bx bz = 0) := by
      by_cases q2 : sg (cr3 ax ay bx bz cx cy) = sg (cr3 ax ay bx bz dx dy)
      · have e := sg_eq q2 h3
        have e2 : cr3 cx cy dx dy ax ay = cr3 cx cy dx dy bx bz := by
          rw [e.1, e.2] at hD
          exact Int.eq_of_sub_eq_zero hD
        exact ⟨e, sg_eq (by rw [e2]) h4⟩
      · have q3 : sg (cr3 cx cy dx dy ax ay) = sg (cr3 cx cy dx dy bx bz) := Classical.not_not.mp (fun w => q1 ⟨q2, w⟩)
        have e := sg_eq q3 h4
        have e2 : cr3 ax ay bx bz dx dy = cr3 ax ay bx bz cx cy := by
          rw [e.1, e.2] at hD
          exact Int.eq_of_sub_eq_zero hD.symm
        exact absurd (by rw [e2]) q2
    rcases g_box z.1.1 z.1.2 z.2.1 z.2.2 h1 h2 with w | w | w | w
    · exact .inr (.inl ⟨sg_0.mpr z.1.1, w⟩)
    · exact .inr (.inr (.inl ⟨sg_0.mpr z.1.2, w⟩))
    · exact .inr (.inr (.inr (.inl ⟨sg_0.mpr z.2.1, w⟩)))
    · exact .inr (.inr (.inr (.inr ⟨sg_0.mpr z.2.2, w⟩)))
