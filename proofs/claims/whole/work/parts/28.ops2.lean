theorem sub1_t {x : Int32} (h : 1 ≤ x.toInt) : (x + (-1)).toInt = x.toInt - 1 := by
  have e : x + (-1) = iI (x.toInt - 1) := by
    rw [Int.sub_eq_add_neg, ← iI_add, ← iI_of]; rfl
  have := (B31_of x).2
  rw [e, iI_t ⟨by omega, by omega⟩]
theorem lp_stays {st mt : St} (a1 : Int32) (hp : gA st 1 0 - 100 = gA mt 3 0) (h0 : 0 ≤ a1.toInt) : ∀ (n : Nat) (v : Int32), v.toInt = n → ∃ r : Int32, ∀ post : Int32 → Prop, post r → (∃ m, wp_X10_stays_L18 post (post 0) st a1 m v) ∧ (∃ m, wp_X11_stays_L19 post (fun z => post z) mt a1 m v) := by
  intro n
  induction n with
  | zero =>
    intro v hv
    have e : v = 0 := Int32.toInt_inj.mp hv
    subst e
    refine ⟨0, fun post hp => ⟨⟨1, fun _ => hp, fun z => absurd (by decide) z⟩, ⟨1, fun _ => hp, fun z => absurd ?_ z⟩⟩⟩
    show (0 * gA mt 3 0 * gA mt 3 0 / 1000 : Int32) ≤ a1
    rw [Int32.zero_mul, Int32.zero_mul, Int32.le_iff_toInt_le]
    exact h0
  | succ n ih =>
    intro v hv
    have h2 : ¬ v ≤ 0 := fun z => by
      have : v.toInt ≤ 0 := Int32.le_iff_toInt_le.mp z
      omega
    by_cases hc : v * gA mt 3 0 * gA mt 3 0 / 1000 ≤ a1
    · refine ⟨v, fun post hq => ⟨⟨1, fun z => absurd z h2, fun _ => ⟨fun z => ?_, fun _ => hq⟩⟩, ⟨1, fun _ => hq, fun z => absurd hc z⟩⟩⟩
      have z : a1 < v * (gA st 1 0 - 100) * (gA st 1 0 - 100) / 1000 := z
      rw [hp] at z
      exact absurd hc (Int32.not_le.mpr z)
    · obtain ⟨r, hr⟩ := ih (v + (-1)) (by rw [sub1_t (by omega)]; omega)
      refine ⟨r, fun post hq => ?_⟩
      obtain ⟨⟨m1, w1⟩, ⟨m2, w2⟩⟩ := hr post hq
      refine ⟨⟨m1 + 1, fun z => absurd z h2, fun _ => ⟨fun _ y hy => by subst hy; exact w1, fun z => absurd ?_ z⟩⟩, ⟨m2 + 1, fun z => absurd z hc, fun _ y hy => by subst hy; exact w2⟩⟩
      show a1 < v * (gA st 1 0 - 100) * (gA st 1 0 - 100) / 1000
      rw [hp]
      exact Int32.not_le.mp hc
theorem o_stays (st mt : St) (j0 j1 : Option St) (a1 : Int32) (h : LR st j0 j1 mt) : wp_X10_stays st a1 (fun r => wp_X11_stays mt a1 (fun r' => r = r' ∧ LR st j0 j1 mt)) := by
  refine t_x (lo := 0) (hi := 9999) rfl rfl (br (fun c => ?_) (fun c => ?_))
  · obtain ⟨r, hr⟩ := lp_stays a1 (pace_eq h.1) c.1 1000 1000 rfl
    refine (hr _ ?_).1
    exact t_m (lo := 0) (hi := 9999) rfl rfl (br (fun _ => (hr _ ⟨rfl, h⟩).2) (fun z => absurd c z))
  · exact t_m (lo := 0) (hi := 9999) rfl rfl (br (fun z => absurd z c) (fun _ => ⟨rfl, h⟩))
theorem o_told (st mt : St) (j0 j1 : Option St) (a1 : Int32) (h : LR st j0 j1 mt) : wp_X10_told st a1 (fun r => wp_X11_told mt a1 (fun r' => r = r' ∧ LR st j0 j1 mt)) := by
  have hs := h.1
  obtain ⟨s1, s2, s3, s4, s5, s6, s7, s8, s9⟩ := hs
  have hp := h.2.2.1.1
  refine t_x (lo := 0) (hi := 8) rfl rfl (br (fun c => ?_) (fun c => ?_))
  · refine ⟨fun q => ?_, fun q => ?_, fun q => ?_, fun q => ?_, fun q => ?_⟩
    · have hb : (a1 - 4).toInt = a1.toInt - 4 := by
        have e : a1 - 4 = iI (a1.toInt - 4) := by rw [← iI_sub, ← iI_of]; rfl
        rw [e, iI_t ⟨by omega, by omega⟩]
      have hi : vp_in (a1 - 4) 5 := vp_in_iff.mpr ⟨by omega, by omega⟩
      refine ⟨hi, t_m (lo := 4) (hi := 8) rfl rfl (br' (fun z => absurd ⟨by omega, by omega⟩ z) (fun _ => ⟨fun q2 => ⟨hi, ?_, h⟩, fun q2 => ⟨?_, h⟩⟩))⟩
      · have hne : (a1 - 4).toInt ≠ 0 := fun z => q2 (Int32.toInt_inj.mp z)
        have e : (a1 - 4).toNatClampNeg = (a1.toInt - 4).toNat := by rw [Int32.toNatClampNeg, hb]
        rw [e]
        exact s6 _ (by omega) (by omega)
      · rw [q2]; exact s5
    · exact t_m (lo := 4) (hi := 8) rfl rfl (br' (fun _ => ⟨fun z => absurd z (by omega), fun _ => ⟨hp, h⟩, fun z => absurd z (by omega), fun z => absurd z (by omega), fun z => absurd z (by omega)⟩) (fun z => absurd z.1 (by omega)))
    · exact t_m (lo := 4) (hi := 8) rfl rfl (br' (fun _ => ⟨fun z => absurd z (by omega), fun z => absurd z (by omega), fun _ => ⟨s2, h⟩, fun z => absurd z (by omega), fun z => absurd z (by omega)⟩) (fun z => absurd z.1 (by omega)))
    · exact t_m (lo := 4) (hi := 8) rfl rfl (br' (fun _ => ⟨fun z => absurd z (by omega), fun z => absurd z (by omega), fun z => absurd z (by omega), fun _ => ⟨s3, h⟩, fun z => absurd z (by omega)⟩) (fun z => absurd z.1 (by omega)))
    · exact t_m (lo := 4) (hi := 8) rfl rfl (br' (fun _ => ⟨fun z => absurd z (by omega), fun z => absurd z (by omega), fun z => absurd z (by omega), fun z => absurd z (by omega), fun _ => ⟨s4, h⟩⟩) (fun z => absurd z.1 (by omega)))
  · exact t_m (lo := 4) (hi := 8) rfl rfl (br' (fun _ => ⟨fun _ => ⟨rfl, h⟩, fun z => absurd z (by omega), fun z => absurd z (by omega), fun z => absurd z (by omega), fun z => absurd z (by omega)⟩) (fun z => absurd z (by omega)))
theorem set_in {mt : St} {k a2 lo hi : Int32} {l h : Int} (hl : lo.toInt = l) (hh : hi.toInt = h) (hk : 0 ≤ k.toInt ∧ k.toInt ≤ 4) {post : Int32 → St → Prop} (hy : l ≤ a2.toInt ∧ a2.toInt ≤ h → post (if k = 0 then gA mt 3 0 + 100 else gA mt 3 k.toNatClampNeg) (sA mt 3 (upd (gA mt 3) k.toNatClampNeg (if k = 0 then a2 - 100 else a2)))) (hn : ¬ (l ≤ a2.toInt ∧ a2.toInt ≤ h) → post (-2) mt) :
    wp_X11_in k.toInt64 0 4 (fun r7 => ((r7 = 0) → (post (-2) mt)) ∧ ((¬ r7 = 0) → (wp_X11_in a2.toInt64 (lo.toInt64) (hi.toInt64) (fun r10 => ((¬ r10 = 0) → (wp_X11_setNow mt k (fun r13 => ((¬ k = 0) → (vp_in k 5 ∧ (post r13 (sA mt 3 (upd (gA mt 3) k.toNatClampNeg a2))))) ∧ ((k = 0) → (∀ x16 : Int32, x16 = (a2 - 100) → (vp_in k 5 ∧ (post r13 (sA mt 3 (upd (gA mt 3) k.toNatClampNeg x16))))))))) ∧ ((r10 = 0) → (post (-2) mt)))))) := by
  have hi5 : vp_in k 5 := vp_in_iff.mpr ⟨hk.1, by omega⟩
  refine t_m (lo := 0) (hi := 4) rfl rfl (br' (fun z => absurd hk z) (fun _ => t_m (lo := l) (hi := h) (by rw [Int32.toInt_toInt64, hl]) (by rw [Int32.toInt_toInt64, hh]) (br (fun c => ?_) (fun c => hn c))))
  have hy := hy c
  by_cases e : k = 0
  · rw [if_pos e, if_pos e] at hy
    exact ⟨fun z => absurd e z, fun _ => ⟨fun z => absurd e z, fun _ x hx => ⟨hi5, by rw [hx]; exact hy⟩⟩⟩
  · rw [if_neg e, if_neg e] at hy
    exact ⟨fun _ => ⟨hi5, fun _ => ⟨hi5, hy⟩, fun z => absurd z e⟩, fun z => absurd z e⟩
theorem k_takes {k a2 : Int32} (hk : 0 ≤ k.toInt ∧ k.toInt ≤ 4) {post : Int32 → Prop} (h : post (bI ((zL k.toNatClampNeg).toInt ≤ a2.toInt ∧ a2.toInt ≤ (zM k.toNatClampNeg).toInt))) : wp_X7_takes k a2 post := by
  have hi5 : vp_in k 5 := vp_in_iff.mpr ⟨hk.1, by omega⟩
  refine t_x (lo := 0) (hi := 4) rfl rfl (br' (fun z => absurd hk z) (fun _ => ⟨hi5, hi5, k_within (br' (fun c => ?_) (fun c => ?_))⟩))
  · rw [show bI ((zL k.toNatClampNeg).toInt ≤ a2.toInt ∧ a2.toInt ≤ (zM k.toNatClampNeg).toInt) = 0 from if_neg c] at h; exact h
  · rw [show bI ((zL k.toNatClampNeg).toInt ≤ a2.toInt ∧ a2.toInt ≤ (zM k.toNatClampNeg).toInt) = 1 from if_pos c] at h; exact h
theorem set_LR {st mt : St} {j0 j1 : Option St} (h : LR st j0 j1 mt) {k a2 : Int32} (hk : 0 ≤ k.toInt ∧ k.toInt ≤ 4) (c : (zL k.toNatClampNeg).toInt ≤ a2.toInt ∧ a2.toInt ≤ (zM k.toNatClampNeg).toInt) : LR (sA st 1 (upd (gA st 1) k.toNatClampNeg a2)) j0 j1 (sA mt 3 (upd (gA mt 3) k.toNatClampNeg (if k = 0 then a2 - 100 else a2))) := by
  obtain ⟨⟨s1, s2, s3, s4, s5, s6, s7⟩, ⟨b1, b2, b3, b4, b5⟩, hr⟩ := h
  have hz : k = 0 ↔ k.toNatClampNeg = 0 := by
    rw [← Int32.toInt_inj, Int32.toNatClampNeg, show (0 : Int32).toInt = 0 from rfl]
    omega
  refine ⟨⟨s1, s2, s3, s4, ?_, ?_, s7⟩, ⟨b1, b2, b3, ?_, b5⟩, hr⟩
  · show upd (gA st 1) k.toNatClampNeg a2 0 = upd (gA mt 3) k.toNatClampNeg (if k = 0 then a2 - 100 else a2) 0 + 100
    by_cases e : k = 0
    · rw [hz.mp e, upd_s, upd_s, if_pos e]
      exact (Int32.sub_add_cancel _ _).symm
    · have e2 : 0 ≠ k.toNatClampNeg := fun z => e (hz.mpr z.symm)
      rw [upd_n _ _ e2, upd_n _ _ e2]; exact s5
  · intro i h1 h2
    show upd (gA st 1) k.toNatClampNeg a2 i = upd (gA mt 3) k.toNatClampNeg (if k = 0 then a2 - 100 else a2) i
    by_cases e : i = k.toNatClampNeg
    · have e2 : ¬ k = 0 := fun z => by rw [hz.mp z] at e; omega
      rw [e, upd_s, upd_s, if_neg e2]
    · rw [upd_n _ _ e, upd_n _ _ e]; exact s6 i h1 h2
  · intro i h2
    show rI (zL i).toInt (zM i).toInt (upd (gA st 1) k.toNatClampNeg a2 i)
    by_cases e : i = k.toNatClampNeg
    · rw [e, upd_s]; exact c
    · rw [upd_n _ _ e]; exact b4 i h2
theorem set_rd {st mt : St} (h : SM st mt) {k : Int32} (hk : 0 ≤ k.toInt ∧ k.toInt ≤ 4) : gA st 1 k.toNatClampNeg = (if k = 0 then gA mt 3 0 + 100 else gA mt 3 k.toNatClampNeg) := by
  by_cases e : k = 0
  · rw [if_pos e, e]; exact h.2.2.2.2.1
  · rw [if_neg e]
    have hne : k.toInt ≠ 0 := fun z => e (Int32.toInt_inj.mp z)
    exact h.2.2.2.2.2.1 _ (by rw [Int32.toNatClampNeg]; omega) (by rw [Int32.toNatClampNeg]; omega)
theorem o_set (st mt : St) (j0 j1 : Option St) (a1 a2 : Int32) (h : LR st j0 j1 mt) : wp_X10_set st a1 a2 (fun r st' => wp_X11_set mt a1 a2 (fun r' mt' => r = r' ∧ LR st' j0 j1 mt')) := by
  by_cases hk : 0 ≤ a1.toInt ∧ a1.toInt ≤ 4
  · have hi5 : vp_in a1 5 := vp_in_iff.mpr ⟨hk.1, by omega⟩
    have key : ∀ (lo hi : Int32) (r : Int32) (s1 : St), lo.toInt = (zL a1.toNatClampNeg).toInt → hi.toInt = (zM a1.toNatClampNeg).toInt → ((zL a1.toNatClampNeg).toInt ≤ a2.toInt ∧ a2.toInt ≤ (zM a1.toNatClampNeg).toInt → r = (if a1 = 0 then gA mt 3 0 + 100 else gA mt 3 a1.toNatClampNeg) ∧ LR s1 j0 j1 (sA mt 3 (upd (gA mt 3) a1.toNatClampNeg (if a1 = 0 then a2 - 100 else a2)))) → (¬ ((zL a1.toNatClampNeg).toInt ≤ a2.toInt ∧ a2.toInt ≤ (zM a1.toNatClampNeg).toInt) → r = (-2) ∧ LR s1 j0 j1 mt) → _ := fun lo hi r s1 e1 e2 y1 y2 => set_in (mt := mt) (k := a1) (a2 := a2) (lo := lo) (hi := hi) e1 e2 hk (post := fun r' mt' => r = r' ∧ LR s1 j0 j1 mt') y1 y2
    have main : ∀ (r : Int32) (s1 : St), ((zL a1.toNatClampNeg).toInt ≤ a2.toInt ∧ a2.toInt ≤ (zM a1.toNatClampNeg).toInt → r = (if a1 = 0 then gA mt 3 0 + 100 else gA mt 3 a1.toNatClampNeg) ∧ LR s1 j0 j1 (sA mt 3 (upd (gA mt 3) a1.toNatClampNeg (if a1 = 0 then a2 - 100 else a2)))) → (¬ ((zL a1.toNatClampNeg).toInt ≤ a2.toInt ∧ a2.toInt ≤ (zM a1.toNatClampNeg).toInt) → r = (-2) ∧ LR s1 j0 j1 mt) → wp_X11_set mt a1 a2 (fun r' mt' => r = r' ∧ LR s1 j0 j1 mt') := by
      intro r s1 y1 y2
      have e01 : a1 = 0 ∨ a1 = 1 ∨ a1 = 2 ∨ a1 = 3 ∨ a1 = 4 := by
        rw [← Int32.toInt_inj, ← Int32.toInt_inj, ← Int32.toInt_inj, ← Int32.toInt_inj, ← Int32.toInt_inj]
        show a1.toInt = 0 ∨ a1.toInt = 1 ∨ a1.toInt = 2 ∨ a1.toInt = 3 ∨ a1.toInt = 4
        omega
      rcases e01 with e | e | e | e | e
      · subst e
        exact ⟨fun z => absurd rfl z, fun _ => ⟨fun z => absurd rfl z, fun _ => key 1 199 r s1 rfl rfl y1 y2⟩⟩
      · subst e
        exact ⟨fun _ => ⟨fun _ => ⟨fun _ => ⟨fun z => absurd rfl z, fun _ => key 0 9 r s1 rfl rfl y1 y2⟩, fun z => absurd z (by decide)⟩, fun z => absurd z (by decide)⟩, fun z => absurd z (by decide)⟩
      · subst e
        exact ⟨fun _ => ⟨fun _ => ⟨fun _ => ⟨fun _ => ⟨fun z => absurd rfl z, fun _ => key 0 200 r s1 rfl rfl y1 y2⟩, fun z => absurd z (by decide)⟩, fun z => absurd z (by decide)⟩, fun z => absurd z (by decide)⟩, fun z => absurd z (by decide)⟩
      · subst e
        exact ⟨fun _ => ⟨fun _ => ⟨fun _ => ⟨fun _ => ⟨fun _ => ⟨fun z => absurd rfl z, fun _ => key 0 100 r s1 rfl rfl y1 y2⟩, fun z => absurd z (by decide)⟩, fun z => absurd z (by decide)⟩, fun z => absurd z (by decide)⟩, fun z => absurd z (by decide)⟩, fun z => absurd z (by decide)⟩
      · subst e
        exact ⟨fun _ => ⟨fun z => absurd rfl z, fun _ => ⟨fun _ => ⟨fun _ => ⟨fun _ => ⟨fun _ => key 100 1000 r s1 rfl rfl y1 y2, fun z => absurd z (by decide)⟩, fun z => absurd z (by decide)⟩, fun z => absurd z (by decide)⟩, fun z => absurd z (by decide)⟩⟩, fun z => absurd z (by decide)⟩
    refine k_takes hk (br (fun c => ⟨hi5, fun x4 e4 => ⟨hi5, ?_⟩⟩) (fun c => ?_))
    · exact main x4 _ (fun _ => ⟨by rw [e4]; exact set_rd h.1 hk, set_LR h hk c⟩) (fun z => absurd c z)
    · exact main (-2) _ (fun z => absurd z c) (fun _ => ⟨rfl, h⟩)
  · unfold wp_X10_set wp_X7_takes
    refine t_x (lo := 0) (hi := 4) rfl rfl (br' (fun _ => ⟨fun z => absurd rfl z, fun _ => ?_⟩) (fun z => absurd z hk))
    have ne : ∀ k : Int32, 0 ≤ k.toInt ∧ k.toInt ≤ 4 → ¬ a1 = k := fun k hq z => hk (by rw [z]; exact hq)
    have n0 := ne 0 ⟨by decide, by decide⟩
    have n1 := ne 1 ⟨by decide, by decide⟩
    have n2 := ne 2 ⟨by decide, by decide⟩
    have n3 := ne 3 ⟨by decide, by decide⟩
    have n4 := ne 4 ⟨by decide, by decide⟩
    exact ⟨fun _ => ⟨fun _ => ⟨fun _ => ⟨fun _ => ⟨fun _ => ⟨fun _ => t_m (lo := 0) (hi := 4) rfl rfl (br' (fun _ => ⟨rfl, h⟩) (fun z => absurd z hk)), fun z => absurd z n3⟩, fun z => absurd z n2⟩, fun z => absurd z n1⟩, fun z => absurd z n0⟩, fun z => absurd z n4⟩, fun z => absurd z n0⟩
