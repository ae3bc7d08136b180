section
/-! the safest, in the class -/
def e5 : Option (Nat × Int) → Int
  | none => -6
  | some b => ((b.1 / 24 : Nat) : Int)
def e6 : Option (Nat × Int) → Int
  | none => -6
  | some b => ((b.1 % 24 : Nat) : Int)
def e7 : Option (Nat × Int) → Int
  | none => -6
  | some b => b.2
theorem e7_b (C : Nat → Nat → Bool) (n : Nat) : -6 ≤ e7 (bs C n) ∧ e7 (bs C n) ≤ 9 := by
  cases e : bs C n with
  | none => exact ⟨by decide, by decide⟩
  | some b =>
    have h := (bs_b C n b e).2
    show -6 ≤ b.2 ∧ b.2 ≤ 9
    omega
theorem bs_e (C : Nat → Nat → Bool) (n : Nat) : bs C (n + 1) = if bt C ((24 + n) / 24) ((24 + n) % 24) = 0 then bs C n else match bs C n with
    | none => some (24 + n, nb C ((24 + n) / 24) ((24 + n) % 24))
    | some b => if nb C ((24 + n) / 24) ((24 + n) % 24) ≤ b.2 then some b else some (24 + n, nb C ((24 + n) / 24) ((24 + n) % 24)) := rfl
theorem bs_k (C : Nat → Nat → Bool) {p w j : Nat} (hj : 24 + j = 24 * p + w) (hw : w < 24) (h : bt C p w = 0 ∨ nb C p w ≤ e7 (bs C j)) : bs C (j + 1) = bs C j := by
  have i1 : (24 + j) / 24 = p := by omega
  have i2 : (24 + j) % 24 = w := by omega
  have hn := nb_b C p w
  rw [bs_e, i1, i2]
  rcases h with h | h
  · rw [if_pos h]
  · by_cases q : bt C p w = 0
    · rw [if_pos q]
    · rw [if_neg q]
      cases e : bs C j with
      | none =>
        rw [e] at h
        have h2 : nb C p w ≤ -6 := h
        omega
      | some b =>
        rw [e] at h
        exact if_pos h
theorem bs_n (C : Nat → Nat → Bool) {p w j : Nat} (hj : 24 + j = 24 * p + w) (hw : w < 24) (h1 : ¬ bt C p w = 0) (h : ¬ nb C p w ≤ e7 (bs C j)) : bs C (j + 1) = some (24 + j, nb C p w) := by
  have i1 : (24 + j) / 24 = p := by omega
  have i2 : (24 + j) % 24 = w := by omega
  rw [bs_e, i1, i2, if_neg h1]
  cases e : bs C j with
  | none => rfl
  | some b =>
    rw [e] at h
    exact if_neg h
/-- the class's state while it looks for the safest -/
def XS (C : Nat → Nat → Bool) (b : Option (Nat × Int)) (t : St) : Prop := XC C t ∧ gI t 5 = iI (e5 b) ∧ gI t 6 = iI (e6 b) ∧ gI t 7 = iI (e7 b)
theorem g_567 (t : St) (a b c : Int32) : FR [5, 6, 7] [] t (sI (sI (sI t 5 a) 6 b) 7 c) ∧ gI (sI (sI (sI t 5 a) 6 b) 7 c) 5 = a ∧ gI (sI (sI (sI t 5 a) 6 b) 7 c) 6 = b ∧ gI (sI (sI (sI t 5 a) 6 b) 7 c) 7 = c := ⟨((FR.sI 5 _ (by decide)).tr (FR.sI 6 _ (by decide))).tr (FR.sI 7 _ (by decide)), rfl, rfl, rfl⟩
theorem XC.fr {C : Nat → Nat → Bool} {t t' : St} (h : XC C t) (h2 : FR [5, 6, 7] [] t t') : XC C t' := fun q hq => by rw [h2.2 10 (fun z => nomatch z)]; exact h q hq
theorem lp_sfI {C : Nat → Nat → Bool} {p : Nat} (hp : 1 ≤ p ∧ p ≤ 60) {post K : St → Prop} : ∀ (n w : Nat), w + n = 24 → ∀ (j : Nat) (t : St), 24 + j = 24 * p + w → XS C (bs C j) t → (∀ t' : St, FR [5, 6, 7] [] t t' → XS C (bs C (24 * p)) t' → K t') → wp_X1_findSafe_L28 post K (iI (p : Int)) (n + 1) t (iI (w : Int)) := by
  intro n
  induction n with
  | zero =>
    intro w hw j t hj h1 h
    rw [show w = 24 by omega] at hj ⊢
    refine ⟨fun _ => h t (FR.rf _ _ _) ?_, fun q => absurd (by decide) q⟩
    rw [show 24 * p = j by omega]
    exact h1
  | succ n ih =>
    intro w hw j t hj h1 h
    have c1 : ¬ (24 : Int32) ≤ iI (w : Int) := by
      intro q
      have := (iI_le (a := 24) ⟨by decide, by decide⟩ ⟨by omega, by omega⟩).mp q
      omega
    have e1 : iI (w : Int) + 1 = iI ((w + 1 : Nat) : Int) := iI_add _ 1
    have hb := bt_b C p w
    have hn := nb_b C p w
    have h7 := e7_b C j
    have ev : iI (bt C p w : Int) = 1 ↔ bt C p w = 1 := by
      have := iI_eq (a := (bt C p w : Int)) (b := 1) ⟨by omega, by omega⟩ ⟨by decide, by decide⟩
      constructor
      · intro z
        have := this.mp z
        omega
      · intro z
        exact this.mpr (by omega)
    refine ⟨fun q => absurd q c1, fun _ => k_bit h1.1 (by omega) (w := w) ⟨by omega, by omega⟩ (by omega) ⟨fun q x10 e10 => ?_, fun q => ?_⟩⟩
    · have q2 : bt C p w = 0 := by
        have : ¬ bt C p w = 1 := fun z => q (ev.mpr z)
        omega
      rw [e10, e1]
      exact ih (w + 1) (by omega) (j + 1) t (by omega) (by rw [bs_k C hj (by omega) (.inl q2)]; exact h1) h
    · have q2 : ¬ bt C p w = 0 := by
        have := ev.mp q
        omega
      refine k_nbX h1.1 hp (by omega) ?_
      have ele : iI (nb C p w) ≤ gI t 7 ↔ nb C p w ≤ e7 (bs C j) := by
        rw [h1.2.2.2]
        exact iI_le ⟨by omega, by omega⟩ ⟨by omega, by omega⟩
      refine ⟨fun z x15 e15 => ?_, fun z => ?_⟩
      · rw [e15, e1]
        exact ih (w + 1) (by omega) (j + 1) t (by omega) (by rw [bs_k C hj (by omega) (.inr (ele.mp z))]; exact h1) h
      · have f2 : FR [5, 6, 7] [] t (sI (sI t 5 (iI (p : Int))) 6 (iI (w : Int))) := (FR.sI 5 _ (by decide)).tr (FR.sI 6 _ (by decide))
        refine k_nbX (h1.1.fr f2) hp (by omega) (fun x19 e19 => ?_)
        obtain ⟨g0, g1, g2, g3⟩ := g_567 t (iI (p : Int)) (iI (w : Int)) (iI (nb C p w))
        generalize sI (sI (sI t 5 (iI (p : Int))) 6 (iI (w : Int))) 7 (iI (nb C p w)) = t2 at g0 g1 g2 g3 ⊢
        rw [e19, e1]
        refine ih (w + 1) (by omega) (j + 1) t2 (by omega) ?_ (fun t' a b => h t' (g0.tr a) b)
        rw [bs_n C hj (by omega) q2 (fun y => z (ele.mpr y))]
        refine ⟨h1.1.fr g0, ?_, ?_, g3⟩
        · rw [g1]
          show iI (p : Int) = iI (((24 + j) / 24 : Nat) : Int)
          rw [show (24 + j) / 24 = p by omega]
        · rw [g2]
          show iI (w : Int) = iI (((24 + j) % 24 : Nat) : Int)
          rw [show (24 + j) % 24 = w by omega]
theorem lp_sf {C : Nat → Nat → Bool} {post : St → Prop} : ∀ (n p : Nat), p + n = 61 → 1 ≤ p → ∀ t : St, XS C (bs C (24 * p - 24)) t → (∀ t' : St, FR [5, 6, 7] [] t t' → XS C (bs C 1440) t' → post t') → wp_X1_findSafe_L20 post (fun t24 => post t24) (n + 1) t (iI (p : Int)) := by
  intro n
  induction n with
  | zero =>
    intro p hp h0 t h1 h
    rw [show p = 61 by omega] at h1 ⊢
    exact ⟨fun _ => h t (FR.rf _ _ _) h1, fun q => absurd (by decide) q⟩
  | succ n ih =>
    intro p hp h0 t h1 h
    have c1 : ¬ (60 : Int32) < iI (p : Int) := by
      intro q
      have := (iI_lt (a := 60) ⟨by decide, by decide⟩ ⟨by omega, by omega⟩).mp q
      omega
    have e1 : iI (p : Int) + 1 = iI ((p + 1 : Nat) : Int) := iI_add _ 1
    refine ⟨fun q => absurd q c1, fun _ => ⟨25, lp_sfI ⟨h0, by omega⟩ 24 0 rfl (24 * p - 24) t (by omega) h1 (fun t' a b x22 e22 => ?_)⟩⟩
    rw [e22, e1]
    refine ih (p + 1) (by omega) (by omega) t' ?_ (fun t2 a2 b2 => h t2 (a.tr a2) b2)
    rw [show 24 * (p + 1) - 24 = 24 * p by omega]
    exact b
theorem k_safe {C : Nat → Nat → Bool} {t : St} (ht : XC C t) {post : St → Prop} (h : ∀ t' : St, FR [5, 6, 7] [] t t' → XS C (bs C 1440) t' → post t') : wp_X1_findSafe t post := by
  obtain ⟨g0, g1, g2, g3⟩ := g_567 t (-6) (-6) (-6)
  unfold wp_X1_findSafe
  generalize sI (sI (sI t 5 (-6)) 6 (-6)) 7 (-6) = t2 at g0 g1 g2 g3 ⊢
  exact ⟨61, lp_sf 60 1 rfl (by decide) t2 ⟨ht.fr g0, g1, g2, g3⟩ (fun t' a b => h t' (g0.tr a) b)⟩
end
section
theorem o_all (st mt : St) (j0 j1 : Option St) (a1 a2 a3 : Int32) (h : LR st j0 j1 mt) : wp_X10_all st a1 a2 a3 (fun r st' => wp_X11_all mt a1 a2 a3 (fun r' mt' => r = r' ∧ LR st' j0 j1 mt')) := by
  refine k_hasX h (br' (fun c => k_isM h (br' (fun _ => ⟨rfl, h⟩) (fun z => absurd z c))) (fun c => ?_))
  refine k_hasX h (br (fun d => ?_) (fun d => k_isM h (br' (fun z => absurd c z) (fun _ => k_isM h (br (fun z => absurd z d) (fun _ => ⟨rfl, h⟩))))))
  refine t_x (lo := 0) (hi := 3) rfl rfl (br (fun e => ?_) (fun e => k_isM h (br' (fun z => absurd c z) (fun _ => k_isM h (br (fun _ => t_m (lo := 0) (hi := 3) rfl rfl (br (fun z => absurd z e) (fun _ => ⟨rfl, h⟩))) (fun z => absurd d z))))))
  obtain ⟨f, rx, rm⟩ := go_of h
  have pre : ∀ post : Int32 → St → Prop, wp_X11_layTurns mt (fun t11 => ∃ m40 : Nat, wp_X11_all_L40 post (fun t28 => ∃ m114 : Nat, wp_X11_all_L114 post (fun v50 v51 v52 => ((¬ a3 = 0) → (((0 ≤ v51) → (((¬ a3 = 1) → (((¬ a3 = 2) → (post v52 t28)) ∧ ((a3 = 2) → (post (v51 - v51 / 24 * 24) t28)))) ∧ ((a3 = 1) → (post (v51 / 24) t28)))) ∧ ((¬ 0 ≤ v51) → (post (-6) t28)))) ∧ ((a3 = 0) → (post v50 t28))) t28 m114 0 (-6) 0 24) a1 a2 m40 t11 0) → wp_X11_all mt a1 a2 a3 post := fun post H => k_isM h (br' (fun z => absurd c z) (fun _ => k_isM h (br (fun _ => t_m (lo := 0) (hi := 3) rfl rfl (br (fun _ => H) (fun z => absurd e z))) (fun z => absurd d z))))
  obtain ⟨k, hk, ek⟩ := one_k h c
  obtain ⟨k', hk', ek'⟩ := one_k h d
  have g4 := four e
  clear c d e
  subst ek ek'
  have hin : vp_in (iI (k : Int)) 8 := iI_in (by omega) (by omega) (by decide)
  have hin' : vp_in (iI (k' : Int)) 8 := iI_in (by omega) (by omega) (by decide)
  have run : ∀ post : Int32 → St → Prop, (∀ u, MR mt u f → ((¬ a3 = 0) → (((0 ≤ iI (eI (bs (Ct st f k k') 1440))) → (((¬ a3 = 1) → (((¬ a3 = 2) → (post (iI (eV (bs (Ct st f k k') 1440))) u)) ∧ ((a3 = 2) → (post (iI (eI (bs (Ct st f k k') 1440)) - iI (eI (bs (Ct st f k k') 1440)) / 24 * 24) u)))) ∧ ((a3 = 1) → (post (iI (eI (bs (Ct st f k k') 1440)) / 24) u)))) ∧ ((¬ 0 ≤ iI (eI (bs (Ct st f k k') 1440))) → (post (-6) u)))) ∧ ((a3 = 0) → (post (iI (cM (Ct st f k k') 1440 : Int)) u))) → wp_X11_all mt (iI (k : Int)) (iI (k' : Int)) a3 post := by
    intro post H
    refine pre post (rm _ (fun u hu => ⟨63, lp_mf h hk hk' (fun u' hu' => ⟨1441, lp_mA hu'.2 ?_ 1440 0 rfl⟩) 62 0 rfl u ⟨hu, fun q hq => absurd hq (Nat.not_lt_zero _)⟩⟩))
    exact H u' hu'.1
  refine rx _ (fun t ht => ⟨hin', hin', k_seat h ht hk' (fun t1 ht1 _ hB => ⟨hin, hin, k_launch h ht1 hk (p := 0) (w := 0) (by decide) (by decide) (fun t2 ht2 _ eB hT => ?_)⟩)⟩)
  have hB2 : XB t2 (seX st f k') (seY st f k') := by
    unfold XB
    rw [eB]
    exact hB
  refine k_reach ht2 (k_fill h ht.2.1 hk hk' ⟨ht2, ⟨_, _, hT⟩, hB2⟩ (fun t3 ht3 hR => ?_))
  have hC : XC (Ct st f k k') t3 := hR
  have fin : ∀ {t' u : St}, FR [5, 6, 7] [] t3 t' → MR mt u f → LR t' j0 j1 u := fun a b => h.fr (ht3.1.1.tr (a.up (by decide) (by decide))) b.1
  have hbs := bs_b (Ct st f k k') 1440
  rcases g4 with rfl | rfl | rfl | rfl
  · refine ⟨fun z => absurd rfl z, fun _ => k_how hC (run _ (fun u hu => ⟨fun z => absurd rfl z, fun _ => ⟨?_, fin (FR.rf _ _ _) hu⟩⟩))⟩
    rw [nI_iI, ← cM_X]
  · refine ⟨fun _ => k_safe hC (fun t4 h4 hS => ⟨fun z => absurd rfl z.1, fun _ => run _ (fun u hu => ⟨fun _ => ?_, fun z => absurd z (by decide)⟩), fun z => absurd z (by decide)⟩), fun z => absurd z (by decide)⟩
    rw [hS.2.1]
    cases e : bs (Ct st f k k') 1440 with
    | none => exact ⟨fun z => absurd z (by decide), fun _ => ⟨rfl, fin h4 hu⟩⟩
    | some b =>
      have hb := hbs b e
      have e0 : (0 ≤ iI (eI (some b))) := (iI_le (a := 0) (b := (b.1 : Int)) ⟨by decide, by decide⟩ ⟨by omega, by omega⟩).mpr (by omega)
      refine ⟨fun _ => ⟨fun z => absurd rfl z, fun _ => ⟨?_, fin h4 hu⟩⟩, fun z => absurd e0 z⟩
      show iI ((b.1 / 24 : Nat) : Int) = iI (b.1 : Int) / 24
      rw [show (24 : Int32) = iI 24 from rfl, iI_div ⟨by omega, by omega⟩ ⟨by decide, by decide⟩ (by decide), Int.tdiv_eq_ediv_of_nonneg (by omega)]
      congr 1
  · refine ⟨fun _ => k_safe hC (fun t4 h4 hS => ⟨fun z => absurd rfl z.2, fun z => absurd z (by decide), fun _ => run _ (fun u hu => ⟨fun _ => ?_, fun z => absurd z (by decide)⟩)⟩), fun z => absurd z (by decide)⟩
    rw [hS.2.2.1]
    cases e : bs (Ct st f k k') 1440 with
    | none => exact ⟨fun z => absurd z (by decide), fun _ => ⟨rfl, fin h4 hu⟩⟩
    | some b =>
      have hb := hbs b e
      have e0 : (0 ≤ iI (eI (some b))) := (iI_le (a := 0) (b := (b.1 : Int)) ⟨by decide, by decide⟩ ⟨by omega, by omega⟩).mpr (by omega)
      refine ⟨fun _ => ⟨fun _ => ⟨fun z => absurd rfl z, fun _ => ⟨?_, fin h4 hu⟩⟩, fun z => absurd z (by decide)⟩, fun z => absurd e0 z⟩
      show iI ((b.1 % 24 : Nat) : Int) = iI (b.1 : Int) - iI (b.1 : Int) / 24 * 24
      rw [show (24 : Int32) = iI 24 from rfl, rem_i (by omega) ⟨by omega, by omega⟩ (by decide) ⟨by decide, by decide⟩]
      congr 1
  · refine ⟨fun _ => k_safe hC (fun t4 h4 hS => ⟨fun _ => run _ (fun u hu => ⟨fun _ => ?_, fun z => absurd z (by decide)⟩), fun z => absurd z (by decide), fun z => absurd z (by decide)⟩), fun z => absurd z (by decide)⟩
    rw [hS.2.2.2]
    cases e : bs (Ct st f k k') 1440 with
    | none => exact ⟨fun z => absurd z (by decide), fun _ => ⟨rfl, fin h4 hu⟩⟩
    | some b =>
      have hb := hbs b e
      have e0 : (0 ≤ iI (eI (some b))) := (iI_le (a := 0) (b := (b.1 : Int)) ⟨by decide, by decide⟩ ⟨by omega, by omega⟩).mpr (by omega)
      exact ⟨fun _ => ⟨fun _ => ⟨fun _ => ⟨rfl, fin h4 hu⟩, fun z => absurd z (by decide)⟩, fun z => absurd z (by decide)⟩, fun z => absurd e0 z⟩
end
