theorem o_wipe (st mt : St) (j0 j1 : Option St) (h : LR st j0 j1 mt) : wp_X10_wipe st (fun r st' => wp_X11_wipe mt (fun r' mt' => r = r' ∧ LR st' j0 j1 mt')) := by
  intro x1 e1 x2 e2
  refine ⟨by rw [e1, e2]; exact h.2.2.1.1, h.1, h.2.1, ⟨rfl, (show rI 0 40 0 from ⟨by decide, by decide⟩), h.2.2.1.2.2⟩, h.2.2.2⟩
theorem o_clear (st mt : St) (j0 j1 : Option St) (h : LR st j0 j1 mt) : wp_X10_clear st (fun r st' => wp_X11_clear mt (fun r' mt' => r = r' ∧ LR st' j0 j1 mt')) := by
  intro x1 e1 x2 e2
  obtain ⟨⟨a1, a2, a3, a4, a5, a6, a7, a8, a9⟩, ⟨b1, b2, b3, b4⟩, hp⟩ := h
  exact ⟨by rw [e1, e2]; exact a4, ⟨a1, a2, a3, rfl, a5, a6, a7, a8, a9⟩, ⟨b1, b2, (show rI 0 24 0 from ⟨by decide, by decide⟩), b4⟩, hp⟩
theorem lt_of_r {x : Int32} {hi : Int} {b : Int32} (hx : rI 0 hi x) (hb : b.toInt = hi) : (x < b ∨ x = b) := by
  rw [Int32.lt_iff_toInt_lt, ← Int32.toInt_inj, hb]
  have := hx.2
  omega
theorem in_of_r {x : Int32} {n : Nat} (h : 0 ≤ x.toInt) (h2 : x.toInt < n) : vp_in x n := vp_in_iff.mpr ⟨h, h2⟩
theorem add1_t {x : Int32} {hi : Int} (h : 0 ≤ x.toInt) (h2 : x.toInt < hi) (h3 : hi ≤ 1000000) : (x + 1).toInt = x.toInt + 1 := by
  have e : x + 1 = iI (x.toInt + 1) := by
    rw [← iI_add, ← iI_of]; rfl
  rw [e, iI_t ⟨by omega, by omega⟩]
theorem o_say (st mt : St) (j0 j1 : Option St) (a1 : Int32) (h : LR st j0 j1 mt) : wp_X10_say st a1 (fun r st' => wp_X11_say mt a1 (fun r' mt' => r = r' ∧ LR st' j0 j1 mt')) := by
  obtain ⟨hs, hb, ⟨p1, p2, p3⟩, hr⟩ := h
  refine t_x (lo := 33) (hi := 126) rfl rfl (br (fun c => ?_) (fun c => ?_))
  · refine ⟨fun q => ⟨?_, fun x2 e2 => ⟨fun z => absurd z (by decide), fun _ => ?_⟩⟩, fun q => ⟨fun _ => ?_, fun z => absurd rfl z⟩⟩
    · have q2 : (gI st 0).toInt < (40 : Int32).toInt := Int32.lt_iff_toInt_lt.mp q
      exact in_of_r p2.1 q2
    · have q2 : (gI st 0).toInt < (40 : Int32).toInt := Int32.lt_iff_toInt_lt.mp q
      have q3 : (gI st 0).toInt < 40 := q2
      refine t_m (lo := 33) (hi := 126) rfl rfl (br (fun _ => ⟨fun q4 => ⟨?_, fun x5 e5 => ?_⟩, fun q4 => ?_⟩) (fun c2 => absurd c c2))
      · rw [← p1]; exact in_of_r p2.1 q2
      · have e0 : x2 = x5 := by rw [e2, e5, p1]
        refine ⟨e0, hs, hb, ⟨e0, ?_, ?_⟩, hr⟩
        · show rI 0 40 x2
          rw [e2]
          refine ⟨?_, ?_⟩ <;> rw [add1_t p2.1 q3 (by decide)] <;> have := p2.1 <;> omega
        · intro k hk
          show upd (gA st 0) (gI st 0).toNatClampNeg a1 k = upd (gA mt 6) (gI mt 7).toNatClampNeg a1 k
          rw [← p1]
          by_cases e : k = (gI st 0).toNatClampNeg
          · rw [e, upd_s, upd_s]
          · rw [upd_n _ _ e, upd_n _ _ e]; exact p3 k hk
      · rw [← p1] at q4
        rw [q4] at q3
        exact absurd q3 (by decide)
    · have q2 : gI st 0 = 40 := (lt_of_r p2 (b := 40) rfl).resolve_left q
      refine t_m (lo := 33) (hi := 126) rfl rfl (br (fun _ => ⟨fun q4 => absurd (by rw [← p1]; exact q2) q4, fun q4 => ⟨rfl, hs, hb, ⟨p1, p2, p3⟩, hr⟩⟩) (fun c2 => absurd c c2))
  · exact t_m (lo := 33) (hi := 126) rfl rfl (br (fun c2 => absurd c2 c) (fun _ => ⟨rfl, hs, hb, ⟨p1, p2, p3⟩, hr⟩))
theorem k_place {a1 a2 a3 : Int32} {N : Int} (hn : (-a3).toInt = -N) (hp : a3.toInt = N) {post : Int32 → Prop} (h : post (bI ((-N ≤ a1.toInt ∧ a1.toInt ≤ N) ∧ (-N ≤ a2.toInt ∧ a2.toInt ≤ N)))) : wp_X11_isPlace a1 a2 a3 post := by
  refine t_m (lo := -N) (hi := N) (by rw [Int32.toInt_toInt64, hn]) (by rw [Int32.toInt_toInt64, hp]) (br' (fun c => ?_) (fun c => t_m (lo := -N) (hi := N) (by rw [Int32.toInt_toInt64, hn]) (by rw [Int32.toInt_toInt64, hp]) (br' (fun d => ?_) (fun d => ?_))))
  · rw [show bI ((-N ≤ a1.toInt ∧ a1.toInt ≤ N) ∧ (-N ≤ a2.toInt ∧ a2.toInt ≤ N)) = 0 from if_neg (fun z => c z.1)] at h; exact h
  · rw [show bI ((-N ≤ a1.toInt ∧ a1.toInt ≤ N) ∧ (-N ≤ a2.toInt ∧ a2.toInt ≤ N)) = 0 from if_neg (fun z => d z.2)] at h; exact h
  · rw [show bI ((-N ≤ a1.toInt ∧ a1.toInt ≤ N) ∧ (-N ≤ a2.toInt ∧ a2.toInt ≤ N)) = 1 from if_pos ⟨c, d⟩] at h; exact h
theorem o_film (st mt : St) (j0 j1 : Option St) (a1 a2 : Int32) (h : LR st j0 j1 mt) : wp_X10_film st a1 a2 (fun r st' => wp_X11_film mt a1 a2 (fun r' mt' => r = r' ∧ LR st' j0 j1 mt')) := by
  have h' := h
  obtain ⟨⟨s1, s2, s3, s4, s5, s6, s7, s8, s9⟩, ⟨b1, b2, b3, b4, b5, b6, b7⟩, hr⟩ := h
  refine t_x (lo := -2000) (hi := 2000) rfl rfl (br' (fun c => ?_) (fun c => ?_))
  · exact k_place (N := 2000) rfl rfl (br (fun z => absurd z.1 c) (fun _ => ⟨rfl, h'⟩))
  · refine t_x (lo := -2000) (hi := 2000) rfl rfl (br (fun d => ?_) (fun d => ?_))
    · refine ⟨fun q => ?_, fun q => ⟨fun _ => ?_, fun z => absurd rfl z⟩⟩
      · have q2 : (gI st 4).toInt < (24 : Int32).toInt := Int32.lt_iff_toInt_lt.mp q
        have q3 : (gI st 4).toInt < 24 := q2
        refine ⟨in_of_r b3.1 q2, in_of_r b3.1 q2, fun x2 e2 => ⟨fun z => absurd z (by decide), fun _ => ?_⟩⟩
        refine k_place (N := 2000) rfl rfl (br (fun _ => ⟨fun q4 => ⟨?_, ?_, fun x5 e5 => ?_⟩, fun q4 => ?_⟩) (fun z => absurd ⟨c, d⟩ z))
        · rw [← s4]; exact in_of_r b3.1 q2
        · rw [← s4]; exact in_of_r b3.1 q2
        · have e0 : x2 = x5 := by rw [e2, e5, s4]
          refine ⟨e0, ⟨s1, s2, s3, e0, s5, s6, s7, s8, ?_⟩, ⟨b1, b2, ?_, b4, b5, b6, ?_⟩, hr⟩
          · intro k hk
            show upd (gA st 4) (gI st 4).toNatClampNeg a1 k = upd (gA mt 25) (gI mt 27).toNatClampNeg a1 k ∧ upd (gA st 5) (gI st 4).toNatClampNeg a2 k = upd (gA mt 26) (gI mt 27).toNatClampNeg a2 k
            rw [← s4]
            by_cases e : k = (gI st 4).toNatClampNeg
            · rw [e, upd_s, upd_s, upd_s, upd_s]; exact ⟨rfl, rfl⟩
            · rw [upd_n _ _ e, upd_n _ _ e, upd_n _ _ e, upd_n _ _ e]; exact s9 k hk
          · show rI 0 24 x2
            rw [e2]
            refine ⟨?_, ?_⟩ <;> rw [add1_t b3.1 q3 (by decide)] <;> have := b3.1 <;> omega
          · intro k hk
            show rI (-2000) 2000 (upd (gA st 4) (gI st 4).toNatClampNeg a1 k) ∧ rI (-2000) 2000 (upd (gA st 5) (gI st 4).toNatClampNeg a2 k)
            by_cases e : k = (gI st 4).toNatClampNeg
            · rw [e, upd_s, upd_s]; exact ⟨c, d⟩
            · rw [upd_n _ _ e, upd_n _ _ e]; exact b7 k hk
        · rw [← s4] at q4
          rw [q4] at q3
          exact absurd q3 (by decide)
      · have q2 : gI st 4 = 24 := (lt_of_r b3 (b := 24) rfl).resolve_left q
        exact k_place (N := 2000) rfl rfl (br (fun _ => ⟨fun q4 => absurd (by rw [← s4]; exact q2) q4, fun _ => ⟨rfl, h'⟩⟩) (fun z => absurd ⟨c, d⟩ z))
    · exact k_place (N := 2000) rfl rfl (br (fun z => absurd z.2 d) (fun _ => ⟨rfl, h'⟩))
theorem pace_eq {st mt : St} (h : SM st mt) : gA st 1 0 - 100 = gA mt 3 0 := by
  rw [h.2.2.2.2.1]
  exact Int32.add_sub_cancel _ _
theorem o_leans (st mt : St) (j0 j1 : Option St) (a1 : Int32) (h : LR st j0 j1 mt) : wp_X10_leans st a1 (fun r => wp_X11_leans mt a1 (fun r' => r = r' ∧ LR st j0 j1 mt)) := by
  refine t_x (lo := 0) (hi := 1000) rfl rfl (br (fun c => ?_) (fun c => ?_))
  · show wp_X11_leans mt a1 (fun r' => a1 * (gA st 1 0 - 100) * (gA st 1 0 - 100) / 1000 = r' ∧ LR st j0 j1 mt)
    refine t_m (lo := 0) (hi := 1000) rfl rfl (br' (fun c2 => absurd c c2) (fun _ => ⟨?_, h⟩))
    show a1 * (gA st 1 0 - 100) * (gA st 1 0 - 100) / 1000 = a1 * gA mt 3 0 * gA mt 3 0 / 1000
    rw [pace_eq h.1]
  · exact t_m (lo := 0) (hi := 1000) rfl rfl (br' (fun _ => ⟨rfl, h⟩) (fun c2 => absurd c2 c))
theorem lp_hut (a1 a3 x : Int32) : ∀ (n : Nat) (v : Int32), v.toInt + n = 100 → 1 ≤ v.toInt → ∃ r : Int32, ∀ post : Int32 → Prop, post r → (∃ m, wp_X10_hut_L48 post (post (-6)) a1 a3 x m v) ∧ (∃ m, wp_X11_hut_L51 post (post (-6)) a1 a3 x m v) := by
  intro n
  induction n with
  | zero =>
    intro v hv h1
    refine ⟨-6, fun post hp => ?_⟩
    have h2 : (99 : Int32) < v := Int32.lt_iff_toInt_lt.mpr (show (99 : Int) < v.toInt by omega)
    exact ⟨⟨1, fun _ => hp, fun z => absurd h2 z⟩, ⟨1, fun _ => hp, fun z => absurd h2 z⟩⟩
  | succ n ih =>
    intro v hv h1
    have h2 : ¬ (99 : Int32) < v := fun z => by
      have : (99 : Int) < v.toInt := Int32.lt_iff_toInt_lt.mp z
      omega
    by_cases hc : (((a1 * v) * x) / 38) ≤ a3
    · have e1 : (v + 1).toInt = v.toInt + 1 := add1_t (hi := 100) (by omega) (by omega) (by decide)
      obtain ⟨r, hr⟩ := ih (v + 1) (by omega) (by omega)
      refine ⟨r, fun post hp => ?_⟩
      obtain ⟨⟨m1, w1⟩, ⟨m2, w2⟩⟩ := hr post hp
      exact ⟨⟨m1 + 1, fun z => absurd z h2, fun _ => ⟨fun _ y hy => by subst hy; exact w1, fun z => absurd hc z⟩⟩, ⟨m2 + 1, fun z => absurd z h2, fun _ => ⟨fun _ y hy => by subst hy; exact w2, fun z => absurd hc z⟩⟩⟩
    · refine ⟨v, fun post hp => ⟨⟨1, fun z => absurd z h2, fun _ => ⟨fun z => absurd z hc, fun _ => hp⟩⟩, ⟨1, fun z => absurd z h2, fun _ => ⟨fun z => absurd z hc, fun _ => hp⟩⟩⟩⟩
theorem o_hut (st mt : St) (j0 j1 : Option St) (a1 a2 a3 : Int32) (h : LR st j0 j1 mt) : wp_X10_hut st a1 a2 a3 (fun r => wp_X11_hut mt a1 a2 a3 (fun r' => r = r' ∧ LR st j0 j1 mt)) := by
  refine t_x (lo := 1) (hi := 1000) rfl rfl (br' (fun c => ?_) (fun c => ?_))
  · exact t_m (lo := 1) (hi := 1000) rfl rfl (br' (fun _ => ⟨rfl, h⟩) (fun c2 => absurd c2 c))
  · refine t_x (lo := 1) (hi := 200) rfl rfl (br' (fun d => ?_) (fun d => ?_))
    · exact t_m (lo := 1) (hi := 1000) rfl rfl (br' (fun c2 => absurd c c2) (fun _ => t_m (lo := 1) (hi := 200) rfl rfl (br' (fun _ => ⟨rfl, h⟩) (fun c2 => absurd c2 d))))
    · refine t_x (lo := 0) (hi := 9999) rfl rfl (br (fun e => ?_) (fun e => ?_))
      · have hz : ¬ a2 = 0 := fun z => by rw [z] at d; exact absurd d.1 (by decide)
        obtain ⟨r, hr⟩ := lp_hut a1 a3 (((a1 + a2) - 1) / a2) 99 1 (by decide) (by decide)
        refine ⟨hz, fun x hx => ?_⟩
        subst hx
        refine (hr _ ?_).1
        refine t_m (lo := 1) (hi := 1000) rfl rfl (br' (fun c2 => absurd c c2) (fun _ => t_m (lo := 1) (hi := 200) rfl rfl (br' (fun c2 => absurd d c2) (fun _ => t_m (lo := 0) (hi := 9999) rfl rfl (br (fun _ => ?_) (fun c2 => absurd e c2))))))
        refine ⟨hz, fun x hx => ?_⟩
        subst hx
        exact (hr _ ⟨rfl, h⟩).2
      · exact t_m (lo := 1) (hi := 1000) rfl rfl (br' (fun c2 => absurd c c2) (fun _ => t_m (lo := 1) (hi := 200) rfl rfl (br' (fun c2 => absurd d c2) (fun _ => t_m (lo := 0) (hi := 9999) rfl rfl (br (fun c2 => absurd c2 e) (fun _ => ⟨rfl, h⟩))))))
