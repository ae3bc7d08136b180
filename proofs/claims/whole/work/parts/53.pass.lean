/-! what an image keeps, item by item -/
def sn (i : Nat) : Nat := if i = 0 then 10 else if i = 1 then 11 else if i = 2 then 14 else 27
def rn (i : Nat) : Nat := if i < 9 then 3 else if i < 49 then (if (i - 9) % 2 = 0 then 8 else 9) else if i < 65 then (if (i - 49) % 2 = 0 then 12 else 13) else (if (i - 65) % 2 = 0 then 25 else 26)
def ri (i : Nat) : Nat := if i < 9 then i - 4 else if i < 49 then (i - 9) / 2 else if i < 65 then (i - 49) / 2 else (i - 65) / 2
def it (u : St) (i : Nat) : Int32 := if i < 4 then gI u (sn i) else gA u (rn i) (ri i)
theorem not1 {j k : Nat} (h : j ≠ k) : j ∉ [k] := by intro z; cases z with | head => exact h rfl | tail _ z => cases z
theorem it_s {u : St} {i : Nat} (h : i < 4) : it u i = gI u (sn i) := if_pos h
theorem it_r {u : St} {i : Nat} (h : 4 ≤ i) : it u i = gA u (rn i) (ri i) := if_neg (by omega)
theorem sn_inj : ∀ i, i < 4 → ∀ j, j < 4 → sn i = sn j → i = j := by decide +kernel
theorem rn_inj0 : ∀ i, i < 113 → ∀ j, j < 113 → (4 ≤ i ∧ 4 ≤ j ∧ rn i = rn j ∧ ri i = ri j) → i = j := by decide +kernel
theorem rn_inj (i : Nat) (hi : i < 113) (j : Nat) (hj : j < 113) (h1 : 4 ≤ i) (h2 : 4 ≤ j) (h3 : rn i = rn j) (h4 : ri i = ri j) : i = j := rn_inj0 i hi j hj ⟨h1, h2, h3, h4⟩
theorem sn_m : ∀ i, i < 4 → sn i ∈ [33, 10, 11, 14, 27] ∧ sn i ≠ 33 ∧ sn i ≠ 34 := by decide +kernel
theorem rn_m : ∀ i, i < 113 → rn i ∈ [31, 3, 8, 9, 12, 13, 25, 26] ∧ rn i ≠ 31 := by decide +kernel
theorem rn_3 : ∀ k, k < 5 → rn (4 + k) = 3 ∧ ri (4 + k) = k := by decide +kernel
theorem rn_8 : ∀ k, k < 20 → (rn (9 + 2 * k) = 8 ∧ ri (9 + 2 * k) = k) ∧ (rn (10 + 2 * k) = 9 ∧ ri (10 + 2 * k) = k) := by decide +kernel
theorem rn_12 : ∀ k, k < 8 → (rn (49 + 2 * k) = 12 ∧ ri (49 + 2 * k) = k) ∧ (rn (50 + 2 * k) = 13 ∧ ri (50 + 2 * k) = k) := by decide +kernel
theorem rn_25 : ∀ k, k < 24 → (rn (65 + 2 * k) = 25 ∧ ri (65 + 2 * k) = k) ∧ (rn (66 + 2 * k) = 26 ∧ ri (66 + 2 * k) = k) := by decide +kernel
theorem it_3 (u : St) {k : Nat} (h : k < 5) : it u (4 + k) = gA u 3 k := by rw [it_r (by omega), (rn_3 k h).1, (rn_3 k h).2]
theorem it_8 (u : St) {k : Nat} (h : k < 20) : it u (9 + 2 * k) = gA u 8 k := by rw [it_r (by omega), (rn_8 k h).1.1, (rn_8 k h).1.2]
theorem it_9 (u : St) {k : Nat} (h : k < 20) : it u (10 + 2 * k) = gA u 9 k := by rw [it_r (by omega), (rn_8 k h).2.1, (rn_8 k h).2.2]
theorem it_12 (u : St) {k : Nat} (h : k < 8) : it u (49 + 2 * k) = gA u 12 k := by rw [it_r (by omega), (rn_12 k h).1.1, (rn_12 k h).1.2]
theorem it_13 (u : St) {k : Nat} (h : k < 8) : it u (50 + 2 * k) = gA u 13 k := by rw [it_r (by omega), (rn_12 k h).2.1, (rn_12 k h).2.2]
theorem it_25 (u : St) {k : Nat} (h : k < 24) : it u (65 + 2 * k) = gA u 25 k := by rw [it_r (by omega), (rn_25 k h).1.1, (rn_25 k h).1.2]
theorem it_26 (u : St) {k : Nat} (h : k < 24) : it u (66 + 2 * k) = gA u 26 k := by rw [it_r (by omega), (rn_25 k h).2.1, (rn_25 k h).2.2]
def SWi (a : St) (I : Nat → Int32) : Prop := SW a (I 0) (I 1) (I 2) (I 3) (fun k => I (4 + k)) (fun k => I (9 + 2 * k)) (fun k => I (10 + 2 * k)) (fun k => I (49 + 2 * k)) (fun k => I (50 + 2 * k)) (fun k => I (65 + 2 * k)) (fun k => I (66 + 2 * k))
theorem SWi_cg {a : St} {I J : Nat → Int32} (e : ∀ i, i < 113 → J i = I i) (h : SWi a I) : SWi a J := by
  obtain ⟨h1, h2, h3, h4, h5, h6, h7, h8, h9⟩ := h
  refine ⟨by rw [e 0 (by decide)]; exact h1, by rw [e 1 (by decide)]; exact h2, by rw [e 2 (by decide)]; exact h3, by rw [e 3 (by decide)]; exact h4, ?_, fun k p q => ?_, fun k q => ⟨?_, ?_⟩, fun k q => ⟨?_, ?_⟩, fun k q => ⟨?_, ?_⟩⟩
  · show gA a 1 0 = J (4 + 0) + 100
    rw [e (4 + 0) (by decide)]; exact h5
  · show gA a 1 k = J (4 + k)
    rw [e (4 + k) (by omega)]; exact h6 k p q
  · show gA a 2 k = J (9 + 2 * k)
    rw [e (9 + 2 * k) (by omega)]; exact (h7 k q).1
  · show gA a 3 k = J (10 + 2 * k)
    rw [e (10 + 2 * k) (by omega)]; exact (h7 k q).2
  · show gA a 6 k = J (49 + 2 * k)
    rw [e (49 + 2 * k) (by omega)]; exact (h8 k q).1
  · show gA a 7 k = J (50 + 2 * k)
    rw [e (50 + 2 * k) (by omega)]; exact (h8 k q).2
  · show gA a 4 k = J (65 + 2 * k)
    rw [e (65 + 2 * k) (by omega)]; exact (h9 k q).1
  · show gA a 5 k = J (66 + 2 * k)
    rw [e (66 + 2 * k) (by omega)]; exact (h9 k q).2
theorem SM_to {a u : St} (h : SM a u) : SWi a (it u) := by
  obtain ⟨h1, h2, h3, h4, h5, h6, h7, h8, h9⟩ := h
  refine ⟨h1, h2, h3, h4, ?_, fun k p q => ?_, fun k q => ⟨?_, ?_⟩, fun k q => ⟨?_, ?_⟩, fun k q => ⟨?_, ?_⟩⟩
  · show gA a 1 0 = it u (4 + 0) + 100
    rw [it_3 u (by decide)]; exact h5
  · show gA a 1 k = it u (4 + k)
    rw [it_3 u q]; exact h6 k p q
  · show gA a 2 k = it u (9 + 2 * k)
    rw [it_8 u q]; exact (h7 k q).1
  · show gA a 3 k = it u (10 + 2 * k)
    rw [it_9 u q]; exact (h7 k q).2
  · show gA a 6 k = it u (49 + 2 * k)
    rw [it_12 u q]; exact (h8 k q).1
  · show gA a 7 k = it u (50 + 2 * k)
    rw [it_13 u q]; exact (h8 k q).2
  · show gA a 4 k = it u (65 + 2 * k)
    rw [it_25 u q]; exact (h9 k q).1
  · show gA a 5 k = it u (66 + 2 * k)
    rw [it_26 u q]; exact (h9 k q).2
theorem SM_of {a u : St} (h : SWi a (it u)) : SM a u := by
  obtain ⟨h1, h2, h3, h4, h5, h6, h7, h8, h9⟩ := h
  refine ⟨h1, h2, h3, h4, ?_, fun k p q => ?_, fun k q => ⟨?_, ?_⟩, fun k q => ⟨?_, ?_⟩, fun k q => ⟨?_, ?_⟩⟩
  · rw [← it_3 u (k := 0) (by decide)]; exact h5
  · rw [← it_3 u q]; exact h6 k p q
  · rw [← it_8 u q]; exact (h7 k q).1
  · rw [← it_9 u q]; exact (h7 k q).2
  · rw [← it_12 u q]; exact (h8 k q).1
  · rw [← it_13 u q]; exact (h8 k q).2
  · rw [← it_25 u q]; exact (h9 k q).1
  · rw [← it_26 u q]; exact (h9 k q).2
theorem SK_i {a : St} {K : Nat → Int32} {o : Nat} : SK a K o ↔ SWi a (fun i => K (o + i)) := by
  unfold SK SWi
  simp only [Nat.add_assoc, Nat.add_zero]
theorem SK_cg {a : St} {K K' : Nat → Int32} {o : Nat} (e : ∀ i, o ≤ i → i < o + 113 → K' i = K i) (h : SK a K o) : SK a K' o := SK_i.mpr (SWi_cg (fun i hi => e (o + i) (by omega) (by omega)) (SK_i.mp h))
theorem IR_cg {j : Option St} {K K' kp kp' : Nat → Int32} {n : Nat} (e : ∀ i, 140 * n ≤ i → i < 140 * n + 113 → K' i = K i) (e2 : kp' n = kp n) (h : IR j K kp n) : IR j K' kp' n := by
  cases j with
  | none => exact e2.trans h
  | some s => exact ⟨e2.trans h.1, SK_cg e h.2.1, h.2.2⟩
/-- the state while it passes: a items are laid, b items are set -/
def PV (o : Nat) (V : Nat → Int32) (u0 : St) (a b : Nat) (u : St) : Prop := gI u 33 = iI ((o + a : Nat) : Int) ∧ (∀ i, gA u 31 i = if o ≤ i ∧ i < o + a then V (i - o) else gA u0 31 i) ∧ (∀ i, i < 113 → it u i = if i < b then V i else it u0 i) ∧ FR [33, 10, 11, 14, 27] [31, 3, 8, 9, 12, 13, 25, 26] u0 u
def MD (o : Nat) (V : Nat → Int32) (u0 : St) : Prop := (¬ gI u0 34 = 0 ∧ ∀ i, i < 113 → V i = it u0 i) ∨ (gI u0 34 = 0 ∧ ∀ i, i < 113 → V i = gA u0 31 (o + i))
theorem q_31 (u : St) (g : Nat → Int32) (a : Int32) : FR [33] [31] u (sI (sA u 31 g) 33 a) ∧ gI (sI (sA u 31 g) 33 a) 33 = a ∧ gA (sI (sA u 31 g) 33 a) 31 = g := ⟨(FR.sA 31 _ (by decide)).tr (FR.sI 33 _ (by decide)), rfl, rfl⟩
theorem it_fr {u u' : St} (h : FR [33] [31] u u') {i : Nat} (hi : i < 113) : it u' i = it u i := by
  by_cases q : i < 4
  · rw [it_s q, it_s q, h.1 (sn i) (not1 (sn_m i q).2.1)]
  · rw [it_r (by omega), it_r (by omega), h.2 (rn i) (not1 (rn_m i hi).2)]
theorem k_pst {o : Nat} {V : Nat → Int32} {u0 u : St} (hM : MD o V u0) (ho : o + 113 ≤ 280) {c : Nat} (hI : PV o V u0 c c u) (hc : c < 113) {a : Int32} (ha : a = it u c) {post : Int32 → St → Prop} (h : ∀ u', PV o V u0 (c + 1) c u' → post (V c) u') : wp_X11_pass u a post := by
  obtain ⟨h33, hK, hit, hF⟩ := hI
  have hin : vp_in (iI ((o + c : Nat) : Int)) 280 := iI_in (by omega) (by omega) (by decide)
  have cl : (iI ((o + c : Nat) : Int)).toNatClampNeg = o + c := cl_n (show o + c ≤ 280 by omega) (by decide)
  have e1 : iI ((o + c : Nat) : Int) + 1 = iI ((o + (c + 1) : Nat) : Int) := iI_add _ 1
  have h34 : gI u 34 = gI u0 34 := hF.1 34 (by decide)
  have fin : ∀ x : Int32, x = iI ((o + c : Nat) : Int) + 1 → post (V c) (sI (sA u 31 (upd (gA u 31) (o + c) (V c))) 33 x) := by
    intro x ex
    obtain ⟨q0, q1, q2⟩ := q_31 u (upd (gA u 31) (o + c) (V c)) x
    generalize sI (sA u 31 (upd (gA u 31) (o + c) (V c))) 33 x = u' at q0 q1 q2 ⊢
    refine h u' ⟨q1.trans (ex.trans e1), fun i => ?_, fun i hi => by rw [it_fr q0 hi]; exact hit i hi, hF.tr (q0.up (by decide) (by decide))⟩
    rw [q2]
    by_cases w : i = o + c
    · rw [w, upd_s, if_pos (by omega), show o + c - o = c by omega]
    · rw [upd_n _ _ w, hK i]
      by_cases w2 : o ≤ i ∧ i < o + c
      · rw [if_pos w2, if_pos (by omega)]
      · rw [if_neg w2, if_neg (by omega)]
  unfold wp_X11_pass
  rw [h33, h34, cl]
  rcases hM with ⟨m1, m2⟩ | ⟨m1, m2⟩
  · have ea : a = V c := by rw [ha, hit c hc, if_neg (by omega), m2 c hc]
    rw [ea]
    exact ⟨fun z => absurd z m1, fun _ => ⟨hin, fun x6 e6 => fin x6 e6⟩⟩
  · refine ⟨fun _ => ⟨hin, fun x2 e2 => ⟨hin, fun x4 e4 => ?_⟩⟩, fun z => absurd m1 z⟩
    have ev : x2 = V c := by rw [e2, hK, if_neg (by omega), m2 c hc]
    rw [ev]
    exact fin x4 e4
theorem FR.one {ii aa : List Nat} {m m' : St} {k : Nat} (h : FR [k] [] m m') (hk : k ∈ ii) : FR ii aa m m' := h.up (by intro j hj; cases hj with | head => exact hk | tail _ z => cases z) (by intro j hj; cases hj)
theorem q_si (u : St) (k : Nat) (v : Int32) : FR [k] [] u (sI u k v) ∧ gI (sI u k v) k = v := ⟨FR.sI k v (List.Mem.head _), if_pos rfl⟩
theorem q_sa (u : St) (k : Nat) (g : Nat → Int32) : FR [] [k] u (sA u k g) ∧ gA (sA u k g) k = g := ⟨FR.sA k g (List.Mem.head _), if_pos rfl⟩
theorem set_s {o : Nat} {V : Nat → Int32} {u0 u : St} {c : Nat} (hI : PV o V u0 (c + 1) c u) (hc : c < 4) {k : Nat} (hk : k = sn c) {v : Int32} (hv : v = V c) : PV o V u0 (c + 1) (c + 1) (sI u k v) := by
  subst hk hv
  obtain ⟨h33, hK, hit, hF⟩ := hI
  have m := sn_m c hc
  obtain ⟨q0, q1⟩ := q_si u (sn c) (V c)
  generalize sI u (sn c) (V c) = u' at q0 q1 ⊢
  refine ⟨(q0.1 33 (not1 (fun z => m.2.1 z.symm))).trans h33, fun i => by rw [q0.2 31 (by intro z; cases z)]; exact hK i, fun i hi => ?_, hF.tr (q0.up (by intro j hj; cases hj with | head => exact m.1 | tail _ z => cases z) (by intro j hj; cases hj))⟩
  by_cases w : i = c
  · rw [w, it_s hc, q1, if_pos (by omega)]
  · have e : it u' i = it u i := by
      by_cases q : i < 4
      · rw [it_s q, it_s q, q0.1 (sn i) (not1 (fun z => w (sn_inj i q c hc z)))]
      · rw [it_r (by omega), it_r (by omega), q0.2 (rn i) (by intro z; cases z)]
    rw [e, hit i hi]
    by_cases w2 : i < c
    · rw [if_pos w2, if_pos (by omega)]
    · rw [if_neg w2, if_neg (by omega)]
theorem set_r {o : Nat} {V : Nat → Int32} {u0 u : St} {c : Nat} (hI : PV o V u0 (c + 1) c u) (hc : 4 ≤ c) (hc2 : c < 113) {r k : Nat} (hr : rn c = r) (hk : ri c = k) {v : Int32} (hv : v = V c) : PV o V u0 (c + 1) (c + 1) (sA u r (upd (gA u r) k v)) := by
  subst hr hk hv
  obtain ⟨h33, hK, hit, hF⟩ := hI
  have m := rn_m c hc2
  obtain ⟨q0, q1⟩ := q_sa u (rn c) (upd (gA u (rn c)) (ri c) (V c))
  generalize sA u (rn c) (upd (gA u (rn c)) (ri c) (V c)) = u' at q0 q1 ⊢
  refine ⟨(q0.1 33 (by intro z; cases z)).trans h33, fun i => by rw [q0.2 31 (not1 (fun z => m.2 z.symm))]; exact hK i, fun i hi => ?_, hF.tr (q0.up (by intro j hj; cases hj) (by intro j hj; cases hj with | head => exact m.1 | tail _ z => cases z))⟩
  by_cases w : i = c
  · rw [w, it_r hc, q1, upd_s, if_pos (by omega)]
  · have e : it u' i = it u i := by
      by_cases q : i < 4
      · rw [it_s q, it_s q, q0.1 (sn i) (by intro z; cases z)]
      · rw [it_r (by omega), it_r (by omega)]
        by_cases y : rn i = rn c
        · rw [y, q1, upd_n _ _ (fun z => w (rn_inj i hi c hc2 (by omega) hc y z))]
        · rw [q0.2 (rn i) (not1 y)]
    rw [e, hit i hi]
    by_cases w2 : i < c
    · rw [if_pos w2, if_pos (by omega)]
    · rw [if_neg w2, if_neg (by omega)]
theorem lp_p3 {o : Nat} {V : Nat → Int32} {u0 : St} (hM : MD o V u0) (ho : o + 113 ≤ 280) {post K : St → Prop} (h : ∀ u, PV o V u0 9 9 u → K u) : ∀ n k, k + n = 5 → ∀ u, PV o V u0 (4 + k) (4 + k) u → wp_X11_passAll_L50 post K (n + 1) u (iI (k : Int)) := by
  intro n
  induction n with
  | zero =>
    intro k hk u hu
    rw [show k = 5 by omega] at hu ⊢
    exact ⟨fun _ => h u hu, fun z => absurd (by decide) z⟩
  | succ n ih =>
    intro k hk u hu
    have c1 : ¬ (5 : Int32) ≤ iI (k : Int) := fun z => by
      have := (iI_le (a := 5) ⟨by decide, by decide⟩ ⟨by omega, by omega⟩).mp z
      omega
    have e1 : iI (k : Int) + 1 = iI ((k + 1 : Nat) : Int) := iI_add _ 1
    have hin : vp_in (iI (k : Int)) 5 := iI_in (by omega) (by omega) (by decide)
    have r := rn_3 k (by omega)
    refine ⟨fun z => absurd z c1, fun _ => ⟨hin, ?_⟩⟩
    rw [cl_n (show k ≤ 5 by omega) (by decide)]
    refine k_pst hM ho hu (by omega) (it_3 u (by omega)).symm (fun u1 hu1 => ⟨hin, fun x14 e14 => ?_⟩)
    rw [e14, e1]
    exact ih (k + 1) (by omega) _ (set_r hu1 (by omega) (by omega) r.1 r.2 rfl)
theorem lp_p8 {o : Nat} {V : Nat → Int32} {u0 : St} (hM : MD o V u0) (ho : o + 113 ≤ 280) {post K : St → Prop} (h : ∀ u, PV o V u0 49 49 u → K u) : ∀ n k, k + n = 20 → ∀ u, PV o V u0 (9 + 2 * k) (9 + 2 * k) u → wp_X11_passAll_L79 post K (n + 1) u (iI (k : Int)) := by
  intro n
  induction n with
  | zero =>
    intro k hk u hu
    rw [show k = 20 by omega] at hu ⊢
    exact ⟨fun _ => h u hu, fun z => absurd (by decide) z⟩
  | succ n ih =>
    intro k hk u hu
    have c1 : ¬ (20 : Int32) ≤ iI (k : Int) := fun z => by
      have := (iI_le (a := 20) ⟨by decide, by decide⟩ ⟨by omega, by omega⟩).mp z
      omega
    have e1 : iI (k : Int) + 1 = iI ((k + 1 : Nat) : Int) := iI_add _ 1
    have hin : vp_in (iI (k : Int)) 20 := iI_in (by omega) (by omega) (by decide)
    have r := rn_8 k (by omega)
    refine ⟨fun z => absurd z c1, fun _ => ⟨hin, ?_⟩⟩
    rw [cl_n (show k ≤ 20 by omega) (by decide)]
    refine k_pst hM ho hu (by omega) (it_8 u (by omega)).symm (fun u1 hu1 => ⟨hin, hin, ?_⟩)
    have hu2 := set_r hu1 (by omega) (by omega) r.1.1 r.1.2 rfl
    have eB : gA (sA u1 8 (upd (gA u1 8) k (V (9 + 2 * k)))) 9 = gA u1 9 := (q_sa u1 8 _).1.2 9 (by decide)
    have hu3 : PV o V u0 (10 + 2 * k) (10 + 2 * k) (sA u1 8 (upd (gA u1 8) k (V (9 + 2 * k)))) := by
      rw [show 10 + 2 * k = 9 + 2 * k + 1 by omega]
      exact hu2
    refine k_pst hM ho hu3 (by omega) (by rw [it_9 _ (show k < 20 by omega), eB]) (fun u4 hu4 => ⟨hin, fun x24 e24 => ?_⟩)
    rw [e24, e1]
    have hu5 := set_r hu4 (by omega) (by omega) r.2.1 r.2.2 rfl
    refine ih (k + 1) (by omega) _ ?_
    rw [show 9 + 2 * (k + 1) = 10 + 2 * k + 1 by omega]
    exact hu5
theorem lp_p12 {o : Nat} {V : Nat → Int32} {u0 : St} (hM : MD o V u0) (ho : o + 113 ≤ 280) {post K : St → Prop} (h : ∀ u, PV o V u0 65 65 u → K u) : ∀ n k, k + n = 8 → ∀ u, PV o V u0 (49 + 2 * k) (49 + 2 * k) u → wp_X11_passAll_L125 post K (n + 1) u (iI (k : Int)) := by
  intro n
  induction n with
  | zero =>
    intro k hk u hu
    rw [show k = 8 by omega] at hu ⊢
    exact ⟨fun _ => h u hu, fun z => absurd (by decide) z⟩
  | succ n ih =>
    intro k hk u hu
    have c1 : ¬ (8 : Int32) ≤ iI (k : Int) := fun z => by
      have := (iI_le (a := 8) ⟨by decide, by decide⟩ ⟨by omega, by omega⟩).mp z
      omega
    have e1 : iI (k : Int) + 1 = iI ((k + 1 : Nat) : Int) := iI_add _ 1
    have hin : vp_in (iI (k : Int)) 8 := iI_in (by omega) (by omega) (by decide)
    have r := rn_12 k (by omega)
    refine ⟨fun z => absurd z c1, fun _ => ⟨hin, ?_⟩⟩
    rw [cl_n (show k ≤ 8 by omega) (by decide)]
    refine k_pst hM ho hu (by omega) (it_12 u (by omega)).symm (fun u1 hu1 => ⟨hin, hin, ?_⟩)
    have hu2 := set_r hu1 (by omega) (by omega) r.1.1 r.1.2 rfl
    have eB : gA (sA u1 12 (upd (gA u1 12) k (V (49 + 2 * k)))) 13 = gA u1 13 := (q_sa u1 12 _).1.2 13 (by decide)
    have hu3 : PV o V u0 (50 + 2 * k) (50 + 2 * k) (sA u1 12 (upd (gA u1 12) k (V (49 + 2 * k)))) := by
      rw [show 50 + 2 * k = 49 + 2 * k + 1 by omega]
      exact hu2
    refine k_pst hM ho hu3 (by omega) (by rw [it_13 _ (show k < 8 by omega), eB]) (fun u4 hu4 => ⟨hin, fun x24 e24 => ?_⟩)
    rw [e24, e1]
    have hu5 := set_r hu4 (by omega) (by omega) r.2.1 r.2.2 rfl
    refine ih (k + 1) (by omega) _ ?_
    rw [show 49 + 2 * (k + 1) = 50 + 2 * k + 1 by omega]
    exact hu5
theorem lp_p25 {o : Nat} {V : Nat → Int32} {u0 : St} (hM : MD o V u0) (ho : o + 113 ≤ 280) {post K : St → Prop} (h : ∀ u, PV o V u0 113 113 u → K u) : ∀ n k, k + n = 24 → ∀ u, PV o V u0 (65 + 2 * k) (65 + 2 * k) u → wp_X11_passAll_L171 post K (n + 1) u (iI (k : Int)) := by
  intro n
  induction n with
  | zero =>
    intro k hk u hu
    rw [show k = 24 by omega] at hu ⊢
    exact ⟨fun _ => h u hu, fun z => absurd (by decide) z⟩
  | succ n ih =>
    intro k hk u hu
    have c1 : ¬ (24 : Int32) ≤ iI (k : Int) := fun z => by
      have := (iI_le (a := 24) ⟨by decide, by decide⟩ ⟨by omega, by omega⟩).mp z
      omega
    have e1 : iI (k : Int) + 1 = iI ((k + 1 : Nat) : Int) := iI_add _ 1
    have hin : vp_in (iI (k : Int)) 24 := iI_in (by omega) (by omega) (by decide)
    have r := rn_25 k (by omega)
    refine ⟨fun z => absurd z c1, fun _ => ⟨hin, ?_⟩⟩
    rw [cl_n (show k ≤ 24 by omega) (by decide)]
    refine k_pst hM ho hu (by omega) (it_25 u (by omega)).symm (fun u1 hu1 => ⟨hin, hin, ?_⟩)
    have hu2 := set_r hu1 (by omega) (by omega) r.1.1 r.1.2 rfl
    have eB : gA (sA u1 25 (upd (gA u1 25) k (V (65 + 2 * k)))) 26 = gA u1 26 := (q_sa u1 25 _).1.2 26 (by decide)
    have hu3 : PV o V u0 (66 + 2 * k) (66 + 2 * k) (sA u1 25 (upd (gA u1 25) k (V (65 + 2 * k)))) := by
      rw [show 66 + 2 * k = 65 + 2 * k + 1 by omega]
      exact hu2
    refine k_pst hM ho hu3 (by omega) (by rw [it_26 _ (show k < 24 by omega), eB]) (fun u4 hu4 => ⟨hin, fun x24 e24 => ?_⟩)
    rw [e24, e1]
    have hu5 := set_r hu4 (by omega) (by omega) r.2.1 r.2.2 rfl
    refine ih (k + 1) (by omega) _ ?_
    rw [show 65 + 2 * (k + 1) = 66 + 2 * k + 1 by omega]
    exact hu5
theorem k_passAll {o : Nat} {V : Nat → Int32} {u0 : St} (hM : MD o V u0) (ho : o + 113 ≤ 280) (h33 : gI u0 33 = iI (o : Int)) {post : St → Prop} (h : ∀ u, PV o V u0 113 113 u → post u) : wp_X11_passAll u0 post := by
  have i0 : PV o V u0 0 0 u0 := ⟨h33, fun i => by rw [if_neg (by omega)], fun i _ => by rw [if_neg (by omega)], FR.rf _ _ _⟩
  refine k_pst hM ho i0 (by decide) rfl (fun u1 hu1 => ?_)
  have s1 := set_s hu1 (by decide) (k := 10) rfl rfl
  have e1 : gI (sI u1 10 (V 0)) 11 = gI u1 11 := (q_si u1 10 _).1.1 11 (by decide)
  refine k_pst hM ho s1 (by decide) (by rw [it_s (by decide)]; exact e1.symm) (fun u2 hu2 => ?_)
  have s2 := set_s hu2 (by decide) (k := 11) rfl rfl
  have e2 : gI (sI u2 11 (V 1)) 14 = gI u2 14 := (q_si u2 11 _).1.1 14 (by decide)
  refine k_pst hM ho s2 (by decide) (by rw [it_s (by decide)]; exact e2.symm) (fun u3 hu3 => ?_)
  have s3 := set_s hu3 (by decide) (k := 14) rfl rfl
  have e3 : gI (sI u3 14 (V 2)) 27 = gI u3 27 := (q_si u3 14 _).1.1 27 (by decide)
  refine k_pst hM ho s3 (by decide) (by rw [it_s (by decide)]; exact e3.symm) (fun u4 hu4 => ?_)
  have s4 := set_s hu4 (by decide) (k := 27) rfl rfl
  refine ⟨6, lp_p3 hM ho (fun u5 h5 => ⟨21, lp_p8 hM ho (fun u6 h6 => ⟨9, lp_p12 hM ho (fun u7 h7 => ⟨25, lp_p25 hM ho (fun u8 h8 => h u8 h8) 24 0 rfl u7 h7⟩) 8 0 rfl u6 h6⟩) 20 0 rfl u5 h5⟩) 5 0 rfl _ s4⟩
