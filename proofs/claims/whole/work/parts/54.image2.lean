/-! images and restoring; a new object -/
def EQS (a b : St) : Prop := gI a 1 = gI b 1 ∧ gI a 2 = gI b 2 ∧ gI a 3 = gI b 3 ∧ gI a 4 = gI b 4 ∧ (∀ k, k < 5 → gA a 1 k = gA b 1 k) ∧ (∀ k, k < 20 → gA a 2 k = gA b 2 k ∧ gA a 3 k = gA b 3 k) ∧ (∀ k, k < 8 → gA a 6 k = gA b 6 k ∧ gA a 7 k = gA b 7 k) ∧ ∀ k, k < 24 → gA a 4 k = gA b 4 k ∧ gA a 5 k = gA b 5 k
theorem EQS.sw {a b : St} (e : EQS a b) {I : Nat → Int32} (h : SWi b I) : SWi a I := by
  obtain ⟨e1, e2, e3, e4, e5, e6, e7, e8⟩ := e
  obtain ⟨h1, h2, h3, h4, h5, h6, h7, h8, h9⟩ := h
  exact ⟨e2.trans h1, e3.trans h2, e1.trans h3, e4.trans h4, (e5 0 (by decide)).trans h5, fun k p q => (e5 k q).trans (h6 k p q), fun k q => ⟨(e6 k q).1.trans (h7 k q).1, (e6 k q).2.trans (h7 k q).2⟩, fun k q => ⟨(e7 k q).1.trans (h8 k q).1, (e7 k q).2.trans (h8 k q).2⟩, fun k q => ⟨(e8 k q).1.trans (h9 k q).1, (e8 k q).2.trans (h9 k q).2⟩⟩
theorem EQS.sb {a b : St} (e : EQS a b) (h : SB b) : SB a := by
  obtain ⟨e1, e2, e3, e4, e5, e6, e7, e8⟩ := e
  obtain ⟨b1, b2, b3, b4, b5, b6, b7⟩ := h
  refine ⟨by rw [e2]; exact b1, by rw [e1]; exact b2, by rw [e4]; exact b3, fun k q => by rw [e5 k q]; exact b4 k q, fun k q => by rw [(e6 k q).1, (e6 k q).2]; exact b5 k q, fun k q => by rw [(e7 k q).1, (e7 k q).2]; exact b6 k q, fun k q => by rw [(e8 k q).1, (e8 k q).2]; exact b7 k q⟩
theorem cpy_0 {f g : Nat → Int32} {n k : Nat} (h : k < n) : va_cpy f g 0 0 n k = f k := by
  unfold va_cpy
  rw [if_pos ⟨Nat.zero_le _, by omega⟩, Nat.sub_zero, Nat.zero_add]
theorem cpS_A (a b : St) : gA (cpS a b) 1 = va_cpy (gA b 1) (gA a 1) 0 0 5 ∧ gA (cpS a b) 2 = va_cpy (gA b 2) (gA a 2) 0 0 20 ∧ gA (cpS a b) 3 = va_cpy (gA b 3) (gA a 3) 0 0 20 ∧ gA (cpS a b) 4 = va_cpy (gA b 4) (gA a 4) 0 0 24 ∧ gA (cpS a b) 5 = va_cpy (gA b 5) (gA a 5) 0 0 24 ∧ gA (cpS a b) 6 = va_cpy (gA b 6) (gA a 6) 0 0 8 ∧ gA (cpS a b) 7 = va_cpy (gA b 7) (gA a 7) 0 0 8 := ⟨rfl, rfl, rfl, rfl, rfl, rfl, rfl⟩
theorem cpS_e (a b : St) : EQS (cpS a b) b := by
  obtain ⟨c1, c2, c3, c4, c5, c6, c7⟩ := cpS_A a b
  refine ⟨rfl, rfl, rfl, rfl, fun k q => by rw [c1, cpy_0 q], fun k q => by rw [c2, c3, cpy_0 q, cpy_0 q]; exact ⟨rfl, rfl⟩, fun k q => by rw [c6, c7, cpy_0 q, cpy_0 q]; exact ⟨rfl, rfl⟩, fun k q => by rw [c4, c5, cpy_0 q, cpy_0 q]; exact ⟨rfl, rfl⟩⟩
theorem rsX_A (a st : St) : gA (rsX a st) 1 = va_cpy (gA a 1) (gA st 1) 0 0 5 ∧ gA (rsX a st) 2 = va_cpy (gA a 2) (gA st 2) 0 0 20 ∧ gA (rsX a st) 3 = va_cpy (gA a 3) (gA st 3) 0 0 20 ∧ gA (rsX a st) 4 = va_cpy (gA a 4) (gA st 4) 0 0 24 ∧ gA (rsX a st) 5 = va_cpy (gA a 5) (gA st 5) 0 0 24 ∧ gA (rsX a st) 6 = va_cpy (gA a 6) (gA st 6) 0 0 8 ∧ gA (rsX a st) 7 = va_cpy (gA a 7) (gA st 7) 0 0 8 := ⟨rfl, rfl, rfl, rfl, rfl, rfl, rfl⟩
theorem rsX_e (a st : St) : EQS (rsX a st) a := by
  obtain ⟨c1, c2, c3, c4, c5, c6, c7⟩ := rsX_A a st
  refine ⟨rfl, rfl, rfl, rfl, fun k q => by rw [c1, cpy_0 q], fun k q => by rw [c2, c3, cpy_0 q, cpy_0 q]; exact ⟨rfl, rfl⟩, fun k q => by rw [c6, c7, cpy_0 q, cpy_0 q]; exact ⟨rfl, rfl⟩, fun k q => by rw [c4, c5, cpy_0 q, cpy_0 q]; exact ⟨rfl, rfl⟩⟩
theorem rsX_p (a st : St) : gI (rsX a st) 0 = gI st 0 ∧ gA (rsX a st) 0 = gA st 0 := ⟨rfl, rfl⟩
theorem not2 {j a b : Nat} (h : j ≠ a) (h2 : j ≠ b) : j ∉ [a, b] := by
  intro z
  cases z with
  | head => exact h rfl
  | tail _ z => exact not1 h2 z
theorem rn_32 : ∀ i, i < 113 → rn i ≠ 32 := by decide +kernel
theorem it_f2 {u u' : St} (h : FR [33, 34] [32] u u') {i : Nat} (hi : i < 113) : it u' i = it u i := by
  by_cases q : i < 4
  · rw [it_s q, it_s q, h.1 (sn i) (not2 (sn_m i q).2.1 (sn_m i q).2.2)]
  · rw [it_r (by omega), it_r (by omega), h.2 (rn i) (not1 (rn_32 i hi))]
theorem q_33 (u : St) (a b : Int32) : FR [33, 34] [32] u (sI (sI u 33 a) 34 b) ∧ gI (sI (sI u 33 a) 34 b) 33 = a ∧ gI (sI (sI u 33 a) 34 b) 34 = b ∧ gA (sI (sI u 33 a) 34 b) 31 = gA u 31 ∧ gA (sI (sI u 33 a) 34 b) 32 = gA u 32 := ⟨(FR.sI 33 _ (by decide)).tr (FR.sI 34 _ (by decide)), rfl, rfl, rfl, rfl⟩
theorem o140 {n : Nat} (hn : n < 2) : 140 * iI (n : Int) = iI ((140 * n : Nat) : Int) := by
  rw [show (140 : Int32) * iI (n : Int) = iI (140 * (n : Int)) from iI_mul 140 _]
  congr 1
theorem FR.or {ii aa ii' aa' : List Nat} {m m1 m2 : St} (h : FR ii aa m m1) (h2 : FR ii' aa' m1 m2) {k : Nat} (a : k ∉ aa) (b : k ∉ aa') : gA m2 k = gA m k := (h2.2 k b).trans (h.2 k a)
theorem end_n {n : Nat} (hn : n < 2) : 0 ≤ (iI (n : Int)).toInt ∧ (iI (n : Int)).toInt ≤ 1 := by
  rw [iI_t ⟨by omega, by omega⟩]
  omega
/-- all but the images themselves, behind an image -/
theorem im_core {st mt : St} {j0 j1 : Option St} (h : LR st j0 j1 mt) {n : Nat} (hn : n < 2) {post : Int32 → St → Prop} (hp : ∀ u, SM st u → PR st u → (∀ k, k < 24 → gA u 0 k = zS k) → (∀ s, SK (cpS s st) (gA u 31) (140 * n)) → gA u 32 n = 1 → (∀ m, m < 2 → m ≠ n → (∀ i, 140 * m ≤ i → i < 140 * m + 113 → gA u 31 i = gA mt 31 i) ∧ gA u 32 m = gA mt 32 m) → post 1 u) : wp_X11_image mt (iI (n : Int)) post := by
  refine k_endM (br (fun _ x4 e4 => ?_) (fun z => absurd (end_n hn) z))
  rw [o140 hn] at e4
  obtain ⟨q0, q1, q2, q3, q4⟩ := q_33 mt x4 1
  generalize sI (sI mt 33 x4) 34 1 = u0 at q0 q1 q2 q3 q4 ⊢
  have hM : MD (140 * n) (it u0) u0 := .inl ⟨by rw [q2]; decide, fun _ _ => rfl⟩
  refine k_passAll hM (by omega) (q1.trans e4) (fun u hu => ?_)
  obtain ⟨h33, hK, hit, hF⟩ := hu
  refine ⟨iI_in (by omega) (by omega) (by decide), ?_⟩
  rw [cl_n (show n ≤ 2 by omega) (by decide)]
  obtain ⟨w0, w1⟩ := q_sa u 32 (upd (gA u 32) n (vp_nar .boolean 1))
  generalize sA u 32 (upd (gA u 32) n (vp_nar .boolean 1)) = v at w0 w1 ⊢
  have ei : ∀ i, i < 113 → it v i = it mt i := fun i hi => by
    rw [it_f2 (w0.up (by decide) (by decide)) hi, hit i hi, if_pos hi, it_f2 q0 hi]
  have eK : gA v 31 = gA u 31 := w0.2 31 (by decide)
  have e32 : gA u 32 = gA mt 32 := (hF.2 32 (by decide)).trans q4
  refine hp v (SM_of (SWi_cg ei (SM_to h.1))) ⟨?_, h.2.2.1.2.1, fun k hk => ?_⟩ (fun k hk => ?_) (fun s => ?_) ?_ (fun m hm hne => ⟨fun i h1 h2 => ?_, ?_⟩)
  · rw [w0.1 7 (by decide), hF.1 7 (by decide), q0.1 7 (by decide)]; exact h.2.2.1.1
  · rw [w0.2 6 (by decide), hF.2 6 (by decide), q0.2 6 (by decide)]; exact h.2.2.1.2.2 k hk
  · rw [w0.2 0 (by decide), hF.2 0 (by decide), q0.2 0 (by decide)]; exact h.2.2.2.1 k hk
  · refine SK_i.mpr (SWi_cg (fun i hi => ?_) ((cpS_e s st).sw (SM_to h.1)))
    rw [eK, hK, if_pos (by omega), show 140 * n + i - 140 * n = i by omega, it_f2 q0 hi]
  · rw [w1, upd_s]; rfl
  · rw [eK, hK, if_neg (by omega), q3]
  · rw [w1, upd_n _ _ hne, e32]
theorem o_image0 (st mt : St) (j0 j1 : Option St) (h : LR st j0 j1 mt) : wp_X11_image mt 0 (fun r mt' => r = 1 ∧ LR st (some (cpS (j0.getD si0) st)) j1 mt') :=
  im_core h (n := 0) (by decide) (fun u a b c d e f => ⟨rfl, a, h.2.1, b, c, ⟨e, d _, (cpS_e _ st).sb h.2.1⟩, IR_cg (f 1 (by decide) (by decide)).1 (f 1 (by decide) (by decide)).2 h.2.2.2.2.2⟩)
theorem o_image1 (st mt : St) (j0 j1 : Option St) (h : LR st j0 j1 mt) : wp_X11_image mt 1 (fun r mt' => r = 1 ∧ LR st j0 (some (cpS (j1.getD si0) st)) mt') :=
  im_core h (n := 1) (by decide) (fun u a b c d e f => ⟨rfl, a, h.2.1, b, c, IR_cg (f 0 (by decide) (by decide)).1 (f 0 (by decide) (by decide)).2 h.2.2.2.2.1, ⟨e, d _, (cpS_e _ st).sb h.2.1⟩⟩)
theorem end_o {n : Int32} (h0 : n ≠ 0) (h1 : n ≠ 1) : ¬ (0 ≤ n.toInt ∧ n.toInt ≤ 1) := by
  intro z
  have : n.toInt = 0 ∨ n.toInt = 1 := by omega
  rcases this with w | w
  · exact h0 (Int32.toInt_inj.mp w)
  · exact h1 (Int32.toInt_inj.mp w)
theorem o_imageN (st mt : St) (j0 j1 : Option St) (n : Int32) (h0 : n ≠ 0) (h1 : n ≠ 1) (h : LR st j0 j1 mt) : wp_X11_image mt n (fun r mt' => r = (-2) ∧ LR st j0 j1 mt') := k_endM (br (fun z => absurd z (end_o h0 h1)) (fun _ => ⟨rfl, h⟩))
theorem rs_core {st mt sv : St} {j0 j1 : Option St} (h : LR st j0 j1 mt) {n : Nat} (hn : n < 2) (hk : gA mt 32 n = 1) (hs : SK sv (gA mt 31) (140 * n)) (hb : SB sv) {post : Int32 → St → Prop} (hp : ∀ u, LR (rsX sv st) j0 j1 u → post 1 u) : wp_X11_restore mt (iI (n : Int)) post := by
  refine k_endM (br (fun _ => ⟨iI_in (by omega) (by omega) (by decide), ?_⟩) (fun z => absurd (end_n hn) z))
  rw [cl_n (show n ≤ 2 by omega) (by decide), hk]
  refine ⟨fun _ x5 e5 => ?_, fun z => absurd z (by decide)⟩
  rw [o140 hn] at e5
  obtain ⟨q0, q1, q2, q3, q4⟩ := q_33 mt x5 0
  generalize sI (sI mt 33 x5) 34 0 = u0 at q0 q1 q2 q3 q4 ⊢
  have hM : MD (140 * n) (fun i => gA u0 31 (140 * n + i)) u0 := .inr ⟨q2, fun _ _ => rfl⟩
  refine k_passAll hM (by omega) (q1.trans e5) (fun u hu => hp u ?_)
  obtain ⟨h33, hK, hit, hF⟩ := hu
  have eK : ∀ i, gA u 31 i = gA mt 31 i := fun i => by
    rw [hK i, ← q3]
    by_cases w : 140 * n ≤ i ∧ i < 140 * n + 113
    · rw [if_pos w]
      show gA u0 31 (140 * n + (i - 140 * n)) = _
      rw [show 140 * n + (i - 140 * n) = i by omega]
    · rw [if_neg w]
  have e32 : gA u 32 = gA mt 32 := (hF.2 32 (by decide)).trans q4
  have hS : SM (rsX sv st) u := by
    refine SM_of ((rsX_e sv st).sw (SWi_cg (fun i hi => ?_) (SK_i.mp hs)))
    rw [hit i hi, if_pos hi, q3]
  refine ⟨hS, (rsX_e sv st).sb hb, ⟨?_, ?_, fun k hk => ?_⟩, fun k hk => ?_, IR_cg (fun i _ _ => eK i) (by rw [e32]) h.2.2.2.2.1, IR_cg (fun i _ _ => eK i) (by rw [e32]) h.2.2.2.2.2⟩
  · rw [(rsX_p sv st).1, hF.1 7 (by decide), q0.1 7 (by decide)]; exact h.2.2.1.1
  · rw [(rsX_p sv st).1]; exact h.2.2.1.2.1
  · rw [(rsX_p sv st).2, hF.2 6 (by decide), q0.2 6 (by decide)]; exact h.2.2.1.2.2 k hk
  · rw [hF.2 0 (by decide), q0.2 0 (by decide)]; exact h.2.2.2.1 k hk
theorem o_rest0 (st mt sv : St) (j1 : Option St) (h : LR st (some sv) j1 mt) : wp_X11_restore mt 0 (fun r mt' => r = 1 ∧ LR (rsX sv st) (some sv) j1 mt') := rs_core h (n := 0) (by decide) h.2.2.2.2.1.1 h.2.2.2.2.1.2.1 h.2.2.2.2.1.2.2 (fun u hu => ⟨rfl, hu⟩)
theorem o_rest1 (st mt sv : St) (j0 : Option St) (h : LR st j0 (some sv) mt) : wp_X11_restore mt 1 (fun r mt' => r = 1 ∧ LR (rsX sv st) j0 (some sv) mt') := rs_core h (n := 1) (by decide) h.2.2.2.2.2.1 h.2.2.2.2.2.2.1 h.2.2.2.2.2.2.2 (fun u hu => ⟨rfl, hu⟩)
theorem o_rest0n (st mt : St) (j1 : Option St) (h : LR st none j1 mt) : wp_X11_restore mt 0 (fun r mt' => r = (-3) ∧ LR st none j1 mt') := by
  have hk : gA mt 32 0 = 0 := h.2.2.2.2.1
  refine k_endM (br (fun _ => ⟨iI_in (z := 0) (by decide) (by decide) (by decide), fun z => absurd hk z, fun _ => ⟨rfl, h⟩⟩) (fun z => absurd ⟨by decide, by decide⟩ z))
theorem o_rest1n (st mt : St) (j0 : Option St) (h : LR st j0 none mt) : wp_X11_restore mt 1 (fun r mt' => r = (-3) ∧ LR st j0 none mt') := by
  have hk : gA mt 32 1 = 0 := h.2.2.2.2.2
  refine k_endM (br (fun _ => ⟨iI_in (z := 1) (by decide) (by decide) (by decide), fun z => absurd hk z, fun _ => ⟨rfl, h⟩⟩) (fun z => absurd ⟨by decide, by decide⟩ z))
theorem o_restN (st mt : St) (j0 j1 : Option St) (n : Int32) (h0 : n ≠ 0) (h1 : n ≠ 1) (h : LR st j0 j1 mt) : wp_X11_restore mt n (fun r mt' => r = (-2) ∧ LR st j0 j1 mt') := k_endM (br (fun z => absurd z (end_o h0 h1)) (fun _ => ⟨rfl, h⟩))
/-! a new object -/
theorem zs12 : ∀ i, i < 13 → 7 ≤ i → zS (12 - i) = zS i := by decide +kernel
theorem zs24 : ∀ i, i < 24 → 13 ≤ i → -zS (i - 12) = zS i := by decide +kernel
theorem lp_in1 {u0 : St} {post K : St → Prop} (h : ∀ u, FR [] [0] u0 u → (∀ k, k < 13 → gA u 0 k = zS k) → K u) : ∀ n i, i + n = 13 → 7 ≤ i → ∀ u, FR [] [0] u0 u → (∀ k, k < i → gA u 0 k = zS k) → wp_X11_init_L246 post K (n + 1) u (iI (i : Int)) := by
  intro n
  induction n with
  | zero =>
    intro i hi h7 u hu hk
    rw [show i = 13 by omega] at hk ⊢
    exact ⟨fun _ => h u hu hk, fun z => absurd (by decide) z⟩
  | succ n ih =>
    intro i hi h7 u hu hk
    have c1 : ¬ (12 : Int32) < iI (i : Int) := fun z => by
      have := (iI_lt (a := 12) ⟨by decide, by decide⟩ ⟨by omega, by omega⟩).mp z
      omega
    have e1 : iI (i : Int) + 1 = iI ((i + 1 : Nat) : Int) := iI_add _ 1
    have e2 : 12 - iI (i : Int) = iI ((12 - i : Nat) : Int) := by
      rw [show (12 : Int32) - iI (i : Int) = iI (12 - (i : Int)) from iI_sub 12 _]
      congr 1
      omega
    refine ⟨fun z => absurd z c1, fun _ => ?_⟩
    rw [e2, cl_n (show 12 - i ≤ 24 by omega) (by decide), cl_n (show i ≤ 24 by omega) (by decide)]
    refine ⟨iI_in (by omega) (by omega) (by decide), fun x4 e4 => ⟨iI_in (by omega) (by omega) (by decide), fun x6 e6 => ?_⟩⟩
    rw [hk (12 - i) (by omega), zs12 i (by omega) h7] at e4
    rw [e6, e1, e4]
    obtain ⟨q0, q1⟩ := q_sa u 0 (upd (gA u 0) i (zS i))
    generalize sA u 0 (upd (gA u 0) i (zS i)) = v at q0 q1 ⊢
    refine ih (i + 1) (by omega) (by omega) v (hu.tr q0) (fun k hk2 => ?_)
    rw [q1]
    by_cases e : k = i
    · rw [e, upd_s]
    · rw [upd_n _ _ e]; exact hk k (by omega)
theorem lp_in2 {u0 : St} {post K : St → Prop} (h : ∀ u, FR [] [0] u0 u → (∀ k, k < 24 → gA u 0 k = zS k) → K u) : ∀ n i, i + n = 24 → 13 ≤ i → ∀ u, FR [] [0] u0 u → (∀ k, k < i → gA u 0 k = zS k) → wp_X11_init_L276 post K (n + 1) u (iI (i : Int)) := by
  intro n
  induction n with
  | zero =>
    intro i hi h7 u hu hk
    rw [show i = 24 by omega] at hk ⊢
    exact ⟨fun _ => h u hu hk, fun z => absurd (by decide) z⟩
  | succ n ih =>
    intro i hi h7 u hu hk
    have c1 : ¬ (24 : Int32) ≤ iI (i : Int) := fun z => by
      have := (iI_le (a := 24) ⟨by decide, by decide⟩ ⟨by omega, by omega⟩).mp z
      omega
    have e1 : iI (i : Int) + 1 = iI ((i + 1 : Nat) : Int) := iI_add _ 1
    have e2 : iI (i : Int) - 12 = iI ((i - 12 : Nat) : Int) := by
      rw [show iI (i : Int) - 12 = iI ((i : Int) - 12) from iI_sub _ 12]
      congr 1
      omega
    refine ⟨fun z => absurd z c1, fun _ => ?_⟩
    rw [e2, cl_n (show i - 12 ≤ 24 by omega) (by decide), cl_n (show i ≤ 24 by omega) (by decide)]
    refine ⟨iI_in (by omega) (by omega) (by decide), fun x4 e4 => ⟨iI_in (by omega) (by omega) (by decide), fun x6 e6 => ?_⟩⟩
    rw [hk (i - 12) (by omega), zs24 i (by omega) h7] at e4
    rw [e6, e1, e4]
    obtain ⟨q0, q1⟩ := q_sa u 0 (upd (gA u 0) i (zS i))
    generalize sA u 0 (upd (gA u 0) i (zS i)) = v at q0 q1 ⊢
    refine ih (i + 1) (by omega) (by omega) v (hu.tr q0) (fun k hk2 => ?_)
    rw [q1]
    by_cases e : k = i
    · rw [e, upd_s]
    · rw [upd_n _ _ e]; exact hk k (by omega)
theorem seven {P : Nat → Prop} (h0 : P 0) (h1 : P 1) (h2 : P 2) (h3 : P 3) (h4 : P 4) (h5 : P 5) (h6 : P 6) : ∀ k, k < 7 → P k := by
  intro k hk
  have : k = 0 ∨ k = 1 ∨ k = 2 ∨ k = 3 ∨ k = 4 ∨ k = 5 ∨ k = 6 := by omega
  rcases this with e | e | e | e | e | e | e <;> subst e <;> assumption
theorem si0_b : SB si0 := by
  have z : ∀ k, k < 5 → (zL k).toInt ≤ (zF k).toInt ∧ (zF k).toInt ≤ (zM k).toInt := by decide +kernel
  have r : ∀ lo hi : Int, lo ≤ 0 → 0 ≤ hi → rI lo hi 0 := fun lo hi a b => ⟨a, b⟩
  exact ⟨r _ _ (by decide) (by decide), r _ _ (by decide) (by decide), r _ _ (by decide) (by decide), z, fun k _ => ⟨r _ _ (by decide) (by decide), r _ _ (by decide) (by decide)⟩, fun k _ => ⟨r _ _ (by decide) (by decide), r _ _ (by decide) (by decide)⟩, fun k _ => ⟨r _ _ (by decide) (by decide), r _ _ (by decide) (by decide)⟩⟩
theorem o_init : wp_X11_init z0 (fun mt => LR si0 none none mt) := by
  unfold wp_X11_init
  generalize hu : (sA (sA (sA (sA (sA (sA (sA (sA (sA (sA (sA z0 3 (upd (gA z0 3) (0 : Int32).toNatClampNeg 10)) 3 (upd (upd (gA z0 3) (0 : Int32).toNatClampNeg 10) (2 : Int32).toNatClampNeg 30)) 3 (upd (upd (upd (gA z0 3) (0 : Int32).toNatClampNeg 10) (2 : Int32).toNatClampNeg 30) (3 : Int32).toNatClampNeg 20)) 3 (upd (upd (upd (upd (gA z0 3) (0 : Int32).toNatClampNeg 10) (2 : Int32).toNatClampNeg 30) (3 : Int32).toNatClampNeg 20) (4 : Int32).toNatClampNeg 500)) 0 (upd (gA z0 0) (0 : Int32).toNatClampNeg 0)) 0 (upd (upd (gA z0 0) (0 : Int32).toNatClampNeg 0) (1 : Int32).toNatClampNeg 2588)) 0 (upd (upd (upd (gA z0 0) (0 : Int32).toNatClampNeg 0) (1 : Int32).toNatClampNeg 2588) (2 : Int32).toNatClampNeg 5000)) 0 (upd (upd (upd (upd (gA z0 0) (0 : Int32).toNatClampNeg 0) (1 : Int32).toNatClampNeg 2588) (2 : Int32).toNatClampNeg 5000) (3 : Int32).toNatClampNeg 7071)) 0 (upd (upd (upd (upd (upd (gA z0 0) (0 : Int32).toNatClampNeg 0) (1 : Int32).toNatClampNeg 2588) (2 : Int32).toNatClampNeg 5000) (3 : Int32).toNatClampNeg 7071) (4 : Int32).toNatClampNeg 8660)) 0 (upd (upd (upd (upd (upd (upd (gA z0 0) (0 : Int32).toNatClampNeg 0) (1 : Int32).toNatClampNeg 2588) (2 : Int32).toNatClampNeg 5000) (3 : Int32).toNatClampNeg 7071) (4 : Int32).toNatClampNeg 8660) (5 : Int32).toNatClampNeg 9659)) 0 (upd (upd (upd (upd (upd (upd (upd (gA z0 0) (0 : Int32).toNatClampNeg 0) (1 : Int32).toNatClampNeg 2588) (2 : Int32).toNatClampNeg 5000) (3 : Int32).toNatClampNeg 7071) (4 : Int32).toNatClampNeg 8660) (5 : Int32).toNatClampNeg 9659) (6 : Int32).toNatClampNeg 10000)) = u0
  have k7 : ∀ k, k < 7 → gA u0 0 k = zS k := by
    subst hu
    exact seven rfl rfl rfl rfl rfl rfl rfl
  have s3 : gA u0 3 0 = 10 ∧ gA u0 3 1 = 0 ∧ gA u0 3 2 = 30 ∧ gA u0 3 3 = 20 ∧ gA u0 3 4 = 500 := by
    subst hu
    exact ⟨rfl, rfl, rfl, rfl, rfl⟩
  have fz : FR [] [0, 3] z0 u0 := by
    subst hu
    exact (((((((((((FR.sA 3 _ (by decide)).tr (FR.sA 3 _ (by decide))).tr (FR.sA 3 _ (by decide))).tr (FR.sA 3 _ (by decide))).tr (FR.sA 0 _ (by decide))).tr (FR.sA 0 _ (by decide))).tr (FR.sA 0 _ (by decide))).tr (FR.sA 0 _ (by decide))).tr (FR.sA 0 _ (by decide))).tr (FR.sA 0 _ (by decide))).tr (FR.sA 0 _ (by decide)))
  clear hu
  refine ⟨7, lp_in1 (u0 := u0) (fun u1 f1 h1 => ⟨12, lp_in2 (u0 := u0) (fun u2 f2 h2 => ?_) 11 13 rfl (by decide) u1 f1 h1⟩) 6 7 rfl (by decide) u0 (FR.rf _ _ _) k7⟩
  have gi : ∀ k, gI u2 k = 0 := fun k => (f2.1 k (by intro z; cases z)).trans (fz.1 k (by intro z; cases z))
  have ga : ∀ k, k ≠ 0 → k ≠ 3 → gA u2 k = fun _ => 0 := fun k a b => (f2.2 k (not1 a)).trans (fz.2 k (not2 a b))
  have g3 : gA u2 3 = gA u0 3 := f2.2 3 (by decide)
  refine ⟨⟨(gi 10).symm, (gi 11).symm, (gi 14).symm, (gi 27).symm, ?_, fun k a b => ?_, fun k _ => ?_, fun k _ => ?_, fun k _ => ?_⟩, si0_b, ⟨(gi 7).symm, ⟨by decide, by decide⟩, fun k _ => ?_⟩, h2, ?_, ?_⟩
  · rw [g3, s3.1]; rfl
  · rw [g3]
    have : k = 1 ∨ k = 2 ∨ k = 3 ∨ k = 4 := by omega
    rcases this with e | e | e | e <;> subst e
    · rw [s3.2.1]; rfl
    · rw [s3.2.2.1]; rfl
    · rw [s3.2.2.2.1]; rfl
    · rw [s3.2.2.2.2]; rfl
  · rw [ga 8 (by decide) (by decide), ga 9 (by decide) (by decide)]; exact ⟨rfl, rfl⟩
  · rw [ga 12 (by decide) (by decide), ga 13 (by decide) (by decide)]; exact ⟨rfl, rfl⟩
  · rw [ga 25 (by decide) (by decide), ga 26 (by decide) (by decide)]; exact ⟨rfl, rfl⟩
  · rw [ga 6 (by decide) (by decide)]; rfl
  · show gA u2 32 0 = 0
    rw [ga 32 (by decide) (by decide)]
  · show gA u2 32 1 = 0
    rw [ga 32 (by decide) (by decide)]
