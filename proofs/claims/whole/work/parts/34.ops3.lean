/-- the numbers of a state that runs begin with -/
theorem setup_p {st mt : St} {j0 j1 : Option St} (h : LR st j0 j1 mt) : ∃ (c : Nat) (s p0 : Int), Pz st c s ∧ Qz mt c s ∧ -99 ≤ p0 ∧ p0 ≤ 99 ∧ gA st 1 0 - 100 = iI p0 ∧ gA mt 3 0 = iI p0 := by
  obtain ⟨⟨s1, s2, s3, s4, s5, s6, s7, s8, s9⟩, ⟨b1, b2, b3, b4, b5, b6, b7⟩, hr⟩ := h
  have c0 := b4 0 (by decide)
  have c1 := b4 1 (by decide)
  have c0l : 1 ≤ (gA st 1 0).toInt := c0.1
  have c0h : (gA st 1 0).toInt ≤ 199 := c0.2
  have c1l : 0 ≤ (gA st 1 1).toInt := c1.1
  have c1h : (gA st 1 1).toInt ≤ 9 := c1.2
  have e0 : gA st 1 0 - 100 = iI ((gA st 1 0).toInt - 100) := by rw [← iI_sub, ← iI_of]; rfl
  have hcn : gI st 2 = iI ((gI st 2).toInt.toNat : Int) := by rw [Int.toNat_of_nonneg b1.1, ← iI_of]
  refine ⟨(gI st 2).toInt.toNat, (gA st 1 1).toInt, (gA st 1 0).toInt - 100, ⟨by have := b1.2; omega, hcn, fun k hk => (b5 k hk).2, iI_of _, c1l, c1h⟩, ⟨by have := b1.2; omega, by rw [← s1]; exact hcn, fun k hk => by rw [← (s7 k hk).2]; exact (b5 k hk).2, by rw [← s6 1 (by decide) (by decide)]; exact iI_of _, c1l, c1h⟩, by omega, by omega, e0, ?_⟩
  rw [← e0, s5]
  exact (Int32.add_sub_cancel _ _).symm
theorem pk_cg {pa pb qa qb : Nat → Int32} {t p : Int} : ∀ c, (∀ k, k < c → pa k = qa k ∧ pb k = qb k) → pk pa pb t p c = pk qa qb t p c := by
  intro c
  induction c with
  | zero => intro _; rfl
  | succ c ih =>
    intro h
    show (if (pa c).toInt = t then hd (pk pa pb t p c + (pb c).toInt) else pk pa pb t p c) = (if (qa c).toInt = t then hd (pk qa qb t p c + (qb c).toInt) else pk qa qb t p c)
    rw [ih (fun k hk => h k (by omega)), (h c (by omega)).1, (h c (by omega)).2]
theorem ap_cg {pa pb qa qb : Nat → Int32} {c : Nat} {s p0 : Int} (h : ∀ k, k < c → pa k = qa k ∧ pb k = qb k) : ∀ t, ap pa pb c s p0 t = ap qa qb c s p0 t := by
  intro t
  induction t with
  | zero => rfl
  | succ t ih =>
    show (((ap pa pb c s p0 t).1 + pk pa pb t (ap pa pb c s p0 t).2 c) % 240, sl (pk pa pb t (ap pa pb c s p0 t).2 c) s) = (((ap qa qb c s p0 t).1 + pk qa qb t (ap qa qb c s p0 t).2 c) % 240, sl (pk qa qb t (ap qa qb c s p0 t).2 c) s)
    rw [ih, pk_cg c h]
/-- the way behind a tick -/
def wy (f : Nat → Int × Int) (k : Nat) : Nat := ((f k).1 / 10).toNat
/-- both runs at once: the platform's numbers f, and the two states behind -/
def Run (st mt : St) (f : Nat → Int × Int) (t u : St) : Prop := FR [] [8, 9] st t ∧ FR [] [4, 5] mt u ∧ (∀ k, (0 ≤ (f k).1 ∧ (f k).1 < 240) ∧ (-99 ≤ (f k).2 ∧ (f k).2 ≤ 99)) ∧ (f 0).1 = 0 ∧ (∀ k, k ≤ 60 → gA t 8 k = iI (f k).1 ∧ gA t 9 k = iI (f k).2) ∧ ∀ k, k ≤ 61 → gA u 4 k = iI (f k).1 ∧ gA u 5 k = iI (f k).2
theorem run_of {st mt : St} {c : Nat} {s p0 : Int} (hx : Pz st c s) (hm : Qz mt c s) (hp : -99 ≤ p0 ∧ p0 ≤ 99) (heq : ∀ k, k < 20 → gA st 2 k = gA mt 8 k ∧ gA st 3 k = gA mt 9 k) : ∃ f : Nat → Int × Int, (∀ post : St → Prop, (∀ t, (FR [] [8, 9] st t ∧ (∀ k, k ≤ 60 → gA t 8 k = iI (f k).1 ∧ gA t 9 k = iI (f k).2)) → post t) → wp_X5_run st (iI p0) post) ∧ (gA mt 3 0 = iI p0 → ∀ post : St → Prop, (∀ u, (FR [] [4, 5] mt u ∧ (∀ k, k ≤ 61 → gA u 4 k = iI (f k).1 ∧ gA u 5 k = iI (f k).2)) → post u) → wp_X11_layTurns mt post) ∧ (∀ k, (0 ≤ (f k).1 ∧ (f k).1 < 240) ∧ (-99 ≤ (f k).2 ∧ (f k).2 ≤ 99)) ∧ (f 0).1 = 0 := by
  refine ⟨ap (gA st 2) (gA st 3) c s p0, fun post h => k_run hx hp (fun t h1 h2 => h t ⟨h1, h2⟩), fun hp0 post h => k_lay hm hp hp0 (fun u h1 h2 => h u ⟨h1, fun k hk => ?_⟩), fun k => ap_b hp hx.2.2.2.2.1 k, rfl⟩
  rw [ap_cg (fun k hk => heq k (by have := hx.1; omega))]
  exact h2 k hk
theorem k_tickX {a1 : Int32} {post : Int32 → Prop} (h : post (bI (0 ≤ a1.toInt ∧ a1.toInt ≤ 60))) : wp_X10_isTick a1 post := t_x (lo := 0) (hi := 60) rfl rfl ⟨bI_b, h⟩
theorem k_tickM {a1 : Int32} {post : Int32 → Prop} (h : post (bI (0 ≤ a1.toInt ∧ a1.toInt ≤ 60))) : wp_X11_isTick a1 post := t_m (lo := 0) (hi := 60) rfl rfl ⟨bI_b, h⟩
theorem k_endM {a1 : Int32} {post : Int32 → Prop} (h : post (bI (0 ≤ a1.toInt ∧ a1.toInt ≤ 1))) : wp_X11_isEnd a1 post := t_m (lo := 0) (hi := 1) rfl rfl ⟨bI_b, h⟩
theorem k_wayXq {a1 : Int32} {post : Int32 → Prop} (h : post (bI (0 ≤ a1.toInt ∧ a1.toInt ≤ 23))) : wp_X10_isWay a1 post := t_x (lo := 0) (hi := 23) rfl rfl ⟨bI_b, h⟩
theorem k_wayMq {a1 : Int32} {post : Int32 → Prop} (h : post (bI (0 ≤ a1.toInt ∧ a1.toInt ≤ 23))) : wp_X11_isWay a1 post := t_m (lo := 0) (hi := 23) rfl rfl ⟨bI_b, h⟩
theorem cl_of {x : Int32} {n : Nat} (h : 0 ≤ x.toInt) (h2 : x.toInt ≤ n) : ∃ k : Nat, k ≤ n ∧ x = iI k ∧ x.toNatClampNeg = k := ⟨x.toInt.toNat, by omega, by rw [Int.toNat_of_nonneg h, ← iI_of], rfl⟩
theorem o_turn (st mt : St) (j0 j1 : Option St) (a1 a2 : Int32) (h : LR st j0 j1 mt) : wp_X10_turn st a1 a2 (fun r st' => wp_X11_turn mt a1 a2 (fun r' mt' => r = r' ∧ LR st' j0 j1 mt')) := by
  refine k_tickX (br' (fun c => ?_) (fun c => ?_))
  · exact k_tickM (br' (fun _ => ⟨rfl, h⟩) (fun z => absurd z c))
  · refine t_x (lo := 0) (hi := 1) rfl rfl (br (fun d => ?_) (fun d => ?_))
    · obtain ⟨cn, s, p0, hx, hm, hp1, hp2, e1, e2⟩ := setup_p h
      obtain ⟨f, rx, rm, fb, f0⟩ := run_of hx hm ⟨hp1, hp2⟩ h.1.2.2.2.2.2.2.1
      obtain ⟨k, hk, -, ek⟩ := cl_of (n := 60) c.1 c.2
      unfold wp_X7_pace
      rw [show gA st 1 (0 : Int32).toNatClampNeg - 100 = iI p0 from e1]
      refine rx _ (fun t ht => ?_)
      have hin : vp_in a1 61 := vp_in_iff.mpr ⟨c.1, by omega⟩
      have hin2 : vp_in a1 62 := vp_in_iff.mpr ⟨c.1, by omega⟩
      refine ⟨fun z => ⟨hin, ?_⟩, fun z => ⟨hin, ?_⟩⟩
      · refine k_tickM (br' (fun z => absurd c z) (fun _ => k_endM (br (fun _ => rm e2 _ (fun u hu => ⟨fun _ => ⟨hin2, ?_, ?_⟩, fun q => absurd q z⟩)) (fun q => absurd d q))))
        · rw [ek, (ht.2 k (by omega)).2, (hu.2 k (by omega)).2]
        · exact h.fr (ht.1.up (by decide) (by decide)) (hu.1.up (by decide) (by decide))
      · refine k_tickM (br' (fun z => absurd c z) (fun _ => k_endM (br (fun _ => rm e2 _ (fun u hu => ⟨fun q => absurd z q, fun _ => ⟨hin2, ?_, ?_⟩⟩)) (fun q => absurd d q))))
        · rw [ek, (ht.2 k (by omega)).1, (hu.2 k (by omega)).1]
        · exact h.fr (ht.1.up (by decide) (by decide)) (hu.1.up (by decide) (by decide))
    · exact k_tickM (br' (fun z => absurd c z) (fun _ => k_endM (br (fun z => absurd z d) (fun _ => ⟨rfl, h⟩))))
