def nx (w c : Int32) : Int32 := if w = 1 then (if 49 ≤ c.toInt ∧ c.toInt ≤ 57 then 0 else -1) else if w = 2 then (if 48 ≤ c.toInt ∧ c.toInt ≤ 57 then 3 else -1) else if w = 3 ∧ (48 ≤ c.toInt ∧ c.toInt ≤ 57) then 0 else if c = 46 then 1 else if c = 43 ∨ c = 45 then 2 else -1
theorem nx1y {c : Int32} (h : 49 ≤ c.toInt ∧ c.toInt ≤ 57) : nx 1 c = 0 := by unfold nx; rw [if_pos rfl, if_pos h]
theorem nx1n {c : Int32} (h : ¬ (49 ≤ c.toInt ∧ c.toInt ≤ 57)) : nx 1 c = -1 := by unfold nx; rw [if_pos rfl, if_neg h]
theorem nx2y {c : Int32} (h : 48 ≤ c.toInt ∧ c.toInt ≤ 57) : nx 2 c = 3 := by unfold nx; rw [if_neg (by decide), if_pos rfl, if_pos h]
theorem nx2n {c : Int32} (h : ¬ (48 ≤ c.toInt ∧ c.toInt ≤ 57)) : nx 2 c = -1 := by unfold nx; rw [if_neg (by decide), if_pos rfl, if_neg h]
theorem nx3y {c : Int32} (h : 48 ≤ c.toInt ∧ c.toInt ≤ 57) : nx 3 c = 0 := by unfold nx; rw [if_neg (by decide), if_neg (by decide), if_pos ⟨rfl, h⟩]
theorem nxo {w c : Int32} (h1 : ¬ w = 1) (h2 : ¬ w = 2) (h3 : ¬ (w = 3 ∧ (48 ≤ c.toInt ∧ c.toInt ≤ 57))) : nx w c = if c = 46 then 1 else if c = 43 ∨ c = 45 then 2 else -1 := by unfold nx; rw [if_neg h1, if_neg h2, if_neg h3]
theorem k_isDigit {c : Int32} {post : Int32 → Prop} (h : post (bI (48 ≤ c.toInt ∧ c.toInt ≤ 57))) : wp_X4_isDigit c post := k_within (a := c) (b := 48) (c := 57) h
theorem k_mDigit {c : Int32} {post : Int32 → Prop} (h : post (bI (48 ≤ c.toInt ∧ c.toInt ≤ 57))) : wp_X11_isDigit c post := t_m (lo := 48) (hi := 57) rfl rfl ⟨bI_b, h⟩
theorem sg_leaf {c : Int32} {post : Int32 → Prop} (h : post (if c = 46 then 1 else if c = 43 ∨ c = 45 then 2 else -1)) : ((¬ c = 46) → (((c = 43) → (post 2)) ∧ ((¬ c = 43) → (((¬ c = 45) → (post (-1))) ∧ ((c = 45) → (post 2)))))) ∧ ((c = 46) → (post 1)) := by
  refine ⟨fun h1 => ?_, fun h1 => ?_⟩
  · rw [if_neg h1] at h
    refine ⟨fun h2 => ?_, fun h2 => ⟨fun h3 => ?_, fun h3 => ?_⟩⟩
    · rw [if_pos (Or.inl h2)] at h; exact h
    · rw [if_neg (fun z => z.elim h2 h3)] at h; exact h
    · rw [if_pos (Or.inr h3)] at h; exact h
  · rw [if_pos h1] at h; exact h
theorem k_behind {w c : Int32} {post : Int32 → Prop} (h : post (nx w c)) : wp_X4_behind w c post := by
  refine k_isDigit ⟨fun h1 => ⟨fun h2 => ⟨fun h3 => ?_, fun h3 => ?_⟩, fun h2 => ?_⟩, fun h1 => ?_⟩
  · rw [nxo h1 h2 (fun z => h3 z.1)] at h; exact sg_leaf h
  · refine ⟨fun d => ?_, fun d => ?_⟩
    · rw [nxo h1 h2 (fun z => bI_eq.mp d z.2)] at h; exact sg_leaf h
    · subst h3; rw [nx3y (bI_ne.mp d)] at h; exact h
  · subst h2
    refine ⟨fun d => ?_, fun d => ?_⟩
    · rw [nx2n (bI_eq.mp d)] at h; exact h
    · rw [nx2y (bI_ne.mp d)] at h; exact h
  · subst h1
    refine ⟨fun d => ?_, fun d => ⟨fun e => ?_, fun e => ?_⟩⟩
    · rw [nx1n (fun z => bI_eq.mp d ⟨by omega, z.2⟩)] at h; exact h
    · subst e; rw [nx1n (by decide)] at h; exact h
    · have e2 : c.toInt ≠ 48 := fun z => e (Int32.toInt_inj.mp z)
      have d2 := bI_ne.mp d
      rw [nx1y ⟨by omega, d2.2⟩] at h; exact h
/-- a round of the reference's loop -/
theorem m_round {post : Int32 → Prop} {K : Int32 → Prop} {mt : St} {n : Nat} {w v2 : Int32} (hl : ¬ gI mt 7 ≤ v2) (hin : vp_in v2 40) (hc : ∀ r, r = nx w (gA mt 6 v2.toNatClampNeg) → ¬ r = (-1) → wp_X11_fault_L4 post K mt n r (v2 + 1)) (hs : nx w (gA mt 6 v2.toNatClampNeg) = (-1) → post v2) : wp_X11_fault_L4 post K mt (n + 1) w v2 := by
  rw [wp_X11_fault_L4]
  refine ⟨fun z => absurd z hl, fun _ => ⟨hin, fun c hcv => ?_⟩⟩
  rw [← hcv] at hc hs
  have sg : ∀ (h3 : nx w c = if c = 46 then 1 else if c = 43 ∨ c = 45 then 2 else -1), ((¬ c = 46) → (((c = 43) → (∀ x12 : Int32, x12 = v2 + 1 → (wp_X11_fault_L4 post K mt n 2 x12))) ∧ ((¬ c = 43) → (((¬ c = 45) → (post v2)) ∧ ((c = 45) → (∀ x15 : Int32, x15 = v2 + 1 → (wp_X11_fault_L4 post K mt n 2 x15))))))) ∧ ((c = 46) → (∀ x17 : Int32, x17 = v2 + 1 → (wp_X11_fault_L4 post K mt n 1 x17))) := by
    intro h3
    refine ⟨fun h1 => ⟨fun h2 x hx => ?_, fun h2 => ⟨fun h4 => ?_, fun h4 x hx => ?_⟩⟩, fun h1 x hx => ?_⟩
    · rw [hx]; exact hc 2 (by rw [h3, if_neg h1, if_pos (Or.inl h2)]) (by decide)
    · exact hs (by rw [h3, if_neg h1, if_neg (fun z => z.elim h2 h4)])
    · rw [hx]; exact hc 2 (by rw [h3, if_neg h1, if_pos (Or.inr h4)]) (by decide)
    · rw [hx]; exact hc 1 (by rw [h3, if_pos h1]) (by decide)
  refine ⟨fun h1 => ⟨fun h2 => ⟨fun h3 => ?_, fun h3 => ?_⟩, fun h2 => ?_⟩, fun h1 => ?_⟩
  · exact sg (nxo h1 h2 (fun z => h3 z.1))
  · refine k_mDigit ⟨fun d => sg (nxo h1 h2 (fun z => bI_eq.mp d z.2)), fun d x hx => ?_⟩
    subst h3
    rw [hx]; exact hc 0 (nx3y (bI_ne.mp d)).symm (by decide)
  · subst h2
    refine k_mDigit ⟨fun d x hx => ?_, fun d => ?_⟩
    · rw [hx]; exact hc 3 (nx2y (bI_ne.mp d)).symm (by decide)
    · exact hs (nx2n (bI_eq.mp d))
  · subst h1
    refine t_m (lo := 49) (hi := 57) rfl rfl (br (fun d x hx => ?_) (fun d => ?_))
    · rw [hx]; exact hc 0 (nx1y d).symm (by decide)
    · exact hs (nx1n d)
/-- the reading's state ahead of each sign -/
def sq (g : Nat → Int32) : Nat → Int32
  | 0 => 0
  | i + 1 => nx (sq g i) (g i)
def WF (g : Nat → Int32) (n : Nat) : Prop := (∀ i, i ≤ n → ¬ sq g i = (-1)) ∧ ¬ sq g n = 1 ∧ ¬ sq g n = 2
theorem lp_fault {st mt : St} {len : Nat} (hlen : len ≤ 40) (hx : gI st 0 = iI len) (hm : gI mt 7 = iI len) (hg : ∀ k, k < 40 → gA st 0 k = gA mt 6 k) : ∀ (n i : Nat), i + n = len → (∀ j, j ≤ i → ¬ sq (gA st 0) j = (-1)) → ∃ r : Int32, (r = (-6) → WF (gA st 0) len) ∧ (¬ r = (-6) → 0 ≤ r.toInt) ∧ ∀ post : Int32 → Prop, post r → (∃ m, wp_X4_faultPlace_L4 post (fun v10 => ((v10 = 1) → (post (gI st 0))) ∧ ((¬ v10 = 1) → (((¬ v10 = 2) → (post (-6))) ∧ ((v10 = 2) → (post (gI st 0)))))) st m (sq (gA st 0) i) (iI i)) ∧ (∃ m, wp_X11_fault_L4 post (fun v43 => ((v43 = 1) → (post (gI mt 7))) ∧ ((¬ v43 = 1) → (((¬ v43 = 2) → (post (-6))) ∧ ((v43 = 2) → (post (gI mt 7)))))) mt m (sq (gA st 0) i) (iI i)) := by
  intro n
  induction n with
  | zero =>
    intro i hi hok
    have hi : i = len := hi
    subst hi
    have hle : gI st 0 ≤ iI i := by rw [hx]; exact Int32.le_refl _
    have hle2 : gI mt 7 ≤ iI i := by rw [hm]; exact Int32.le_refl _
    by_cases h1 : sq (gA st 0) i = 1
    · refine ⟨iI i, fun z => ?_, fun _ => by rw [iI_t ⟨by omega, by omega⟩]; omega, fun post hp => ⟨⟨1, fun _ => ⟨fun _ => by rw [hx]; exact hp, fun z => absurd h1 z⟩, fun z => absurd hle z⟩, ⟨1, fun _ => ⟨fun _ => by rw [hm]; exact hp, fun z => absurd h1 z⟩, fun z => absurd hle2 z⟩⟩⟩
      exact absurd ((iI_eq ⟨by omega, by omega⟩ ⟨by decide, by decide⟩).mp (show iI i = iI (-6) from z)) (by omega)
    · by_cases h2 : sq (gA st 0) i = 2
      · refine ⟨iI i, fun z => ?_, fun _ => by rw [iI_t ⟨by omega, by omega⟩]; omega, fun post hp => ⟨⟨1, fun _ => ⟨fun z => absurd z h1, fun _ => ⟨fun z => absurd h2 z, fun _ => by rw [hx]; exact hp⟩⟩, fun z => absurd hle z⟩, ⟨1, fun _ => ⟨fun z => absurd z h1, fun _ => ⟨fun z => absurd h2 z, fun _ => by rw [hm]; exact hp⟩⟩, fun z => absurd hle2 z⟩⟩⟩
        exact absurd ((iI_eq ⟨by omega, by omega⟩ ⟨by decide, by decide⟩).mp (show iI i = iI (-6) from z)) (by omega)
      · exact ⟨-6, fun _ => ⟨hok, h1, h2⟩, fun z => absurd rfl z, fun post hp => ⟨⟨1, fun _ => ⟨fun z => absurd z h1, fun _ => ⟨fun _ => hp, fun z => absurd z h2⟩⟩, fun z => absurd hle z⟩, ⟨1, fun _ => ⟨fun z => absurd z h1, fun _ => ⟨fun _ => hp, fun z => absurd z h2⟩⟩, fun z => absurd hle2 z⟩⟩⟩
  | succ n ih =>
    intro i hi hok
    have hb : B31 (i : Int) := ⟨by omega, by omega⟩
    have hbl : B31 (len : Int) := ⟨by omega, by omega⟩
    have hle : ¬ gI st 0 ≤ iI i := fun z => by rw [hx, iI_le hbl hb] at z; omega
    have hle2 : ¬ gI mt 7 ≤ iI i := fun z => by rw [hm, iI_le hbl hb] at z; omega
    have hin : vp_in (iI i) 40 := iI_in (by omega) (by omega) (by decide)
    have hcl : (iI (i : Int)).toNatClampNeg = i := by rw [iI_cl (by omega) (by omega)]; omega
    have hn1 : iI (i : Int) + 1 = iI ((i + 1 : Nat) : Int) := by
      have := iI_add (i : Int) 1
      rw [show ((i + 1 : Nat) : Int) = (i : Int) + 1 by omega]
      exact this
    have hsq : nx (sq (gA st 0) i) (gA st 0 i) = sq (gA st 0) (i + 1) := rfl
    by_cases hq : sq (gA st 0) (i + 1) = (-1)
    · refine ⟨iI i, fun z => ?_, fun _ => by rw [iI_t hb]; omega, fun post hp => ⟨⟨1, fun z => absurd z hle, fun _ => ⟨hin, k_behind ?_⟩⟩, ⟨1, m_round hle2 hin (fun r hr hn => absurd ?_ hn) (fun _ => hp)⟩⟩⟩
      · exact absurd ((iI_eq hb ⟨by decide, by decide⟩).mp (show iI i = iI (-6) from z)) (by omega)
      · rw [hcl, hsq]; exact ⟨fun z => absurd hq z, fun _ => hp⟩
      · rw [hr, hcl, ← hg i (by omega), hsq]; exact hq
    · obtain ⟨r, hr1, hr2, hr3⟩ := ih (i + 1) (by omega) (fun j hj => by
        rcases Nat.lt_or_ge i j with q | q
        · rw [show j = i + 1 by omega]; exact hq
        · exact hok j q)
      refine ⟨r, hr1, hr2, fun post hp => ?_⟩
      obtain ⟨⟨m1, w1⟩, ⟨m2, w2⟩⟩ := hr3 post hp
      refine ⟨⟨m1 + 1, fun z => absurd z hle, fun _ => ⟨hin, k_behind ?_⟩⟩, ⟨m2 + 1, m_round hle2 hin (fun r hr hn => ?_) (fun z => absurd ?_ hq)⟩⟩
      · rw [hcl, hsq]; exact ⟨fun _ x hx2 => by rw [hx2, hn1]; exact w1, fun z => absurd z hq⟩
      · rw [hcl, ← hg i (by omega), hsq] at hr
        rw [hr, hn1]; exact w2
      · rw [hcl, ← hg i (by omega), hsq] at z; exact z
theorem pad_len {st mt : St} (h : PR st mt) : ∃ len : Nat, len ≤ 40 ∧ gI st 0 = iI len ∧ gI mt 7 = iI len := by
  obtain ⟨p1, ⟨p2, p3⟩, -⟩ := h
  refine ⟨(gI st 0).toInt.toNat, by omega, ?_, ?_⟩
  · rw [Int.toNat_of_nonneg p2, ← iI_of]
  · rw [Int.toNat_of_nonneg p2, ← iI_of]; exact p1.symm
theorem det_fault {st mt : St} (h : PR st mt) : ∃ (r : Int32) (len : Nat), len ≤ 40 ∧ gI st 0 = iI len ∧ gI mt 7 = iI len ∧ (r = (-6) → WF (gA st 0) len) ∧ (¬ r = (-6) → 0 ≤ r.toInt) ∧ (∀ post : Int32 → Prop, post r → wp_X4_faultPlace st post) ∧ ∀ post : Int32 → Prop, post r → wp_X11_fault mt post := by
  obtain ⟨len, hl, hx, hm⟩ := pad_len h
  obtain ⟨r, h1, h2, h3⟩ := lp_fault hl hx hm h.2.2 len 0 (by omega) (fun j hj => by rw [show j = 0 by omega]; show ¬ (0 : Int32) = (-1); decide)
  exact ⟨r, len, hl, hx, hm, h1, h2, fun post hp => (h3 post hp).1, fun post hp => (h3 post hp).2⟩
theorem o_fault (st mt : St) (j0 j1 : Option St) (h : LR st j0 j1 mt) : wp_X10_fault st (fun r => wp_X11_fault mt (fun r' => r = r' ∧ LR st j0 j1 mt)) := by
  obtain ⟨r, len, -, -, -, -, -, hx, hm⟩ := det_fault h.2.2.1
  exact hx _ (hm _ ⟨rfl, h⟩)
