theorem hdX {a : Int} (h : -1000 ≤ a ∧ a ≤ 1000) : (if (-99 : Int32) < (if iI a < 99 then iI a else 99) then (if iI a < 99 then iI a else 99) else (-99)) = iI (hd a) := by
  have b : ∀ z : Int, -1000 ≤ z ∧ z ≤ 1000 → B31 z := fun z hz => ⟨by omega, by omega⟩
  have l1 : iI a < (99 : Int32) ↔ a < 99 := iI_lt (b a h) (b 99 (by omega))
  have l2 : (-99 : Int32) < iI a ↔ -99 < a := by
    rw [show (-99 : Int32) = iI (-99) from rfl]; exact iI_lt (b (-99) (by omega)) (b a h)
  unfold hd
  by_cases q : a < 99
  · rw [if_pos (l1.mpr q)]
    by_cases q2 : -99 < a
    · rw [if_pos (l2.mpr q2), if_neg (by omega), if_neg (by omega)]
    · rw [if_neg (fun z => q2 (l2.mp z))]
      by_cases q3 : a < -99
      · rw [if_pos q3]; rfl
      · rw [if_neg q3, if_neg (by omega), show a = -99 by omega]; rfl
  · rw [if_neg (fun z => q (l1.mp z)), if_pos (by decide), if_neg (by omega)]
    by_cases q2 : 99 < a
    · rw [if_pos q2]; rfl
    · rw [if_neg q2, show a = 99 by omega]; rfl
theorem k_held {a : Int} (h : -1000 ≤ a ∧ a ≤ 1000) {post : Int32 → Prop} (hp : post (iI (hd a))) : wp_X11_held (iI a) post := by
  have b : ∀ z : Int, -1000 ≤ z ∧ z ≤ 1000 → B31 z := fun z hz => ⟨by omega, by omega⟩
  have h99 : (99 : Int32) = iI 99 := rfl
  have hm99 : (-99 : Int32) = iI (-99) := rfl
  unfold wp_X11_held
  rw [hm99, h99, iI_le (b _ (by omega)) (b a h), iI_le (b a h) (b _ (by omega))]
  unfold hd at hp
  refine ⟨fun q => ⟨fun q2 => ?_, fun q2 => ?_⟩, fun q => ?_⟩
  · rw [if_neg (by omega), if_neg (by omega)] at hp; exact hp
  · rw [if_neg (by omega), if_pos (by omega)] at hp; exact hp
  · rw [if_pos (by omega)] at hp; exact hp
theorem lp_paceX {st : St} {c : Nat} {t p : Int} (hc : c ≤ 20) (hx : gI st 2 = iI c) (hs : ∀ k, k < 20 → rI (-99) 99 (gA st 3 k)) (ht : B31 t) (hp : -99 ≤ p ∧ p ≤ 99) {post K : Int32 → Prop} (hk : K (iI (pk (gA st 2) (gA st 3) t p c))) : ∀ (n k : Nat), k + n = c → ∃ m, wp_X6_paceAt_L5 post K st (iI t) m (iI (pk (gA st 2) (gA st 3) t p k)) (iI k) := by
  intro n
  induction n with
  | zero =>
    intro k e
    have e : k = c := e
    subst e
    exact ⟨1, fun _ => hk, fun z => absurd (by rw [hx]; exact Int32.le_refl _) z⟩
  | succ n ih =>
    intro k e
    have hcl : (iI (k : Int)).toNatClampNeg = k := by rw [iI_cl (by omega) (by omega)]; omega
    have hin : vp_in (iI k) 20 := iI_in (by omega) (by omega) (by decide)
    obtain ⟨m, w⟩ := ih (k + 1) (by omega)
    refine ⟨m + 1, fun z => absurd z (by rw [hx, iI_le ⟨by omega, by omega⟩ ⟨by omega, by omega⟩]; omega), fun _ => ⟨hin, fun q x f => ?_, fun q => ⟨hin, fun x f y g => ?_⟩⟩⟩
    · rw [f, iI_s]
      rw [hcl] at q
      have q2 : ¬ (gA st 2 k).toInt = t := fun z => q (by rw [iI_of (gA st 2 k), z])
      have e2 : pk (gA st 2) (gA st 3) t p (k + 1) = pk (gA st 2) (gA st 3) t p k := by
        show (if (gA st 2 k).toInt = t then _ else _) = _
        rw [if_neg q2]
      rw [e2] at w
      exact w
    · rw [hcl] at q f
      have q2 : (gA st 2 k).toInt = t := by rw [q, iI_t ht]
      have hb := pk_b (pa := gA st 2) (pb := gA st 3) (t := t) hp k
      have hs2 := hs k (by omega)
      have e2 : pk (gA st 2) (gA st 3) t p (k + 1) = hd (pk (gA st 2) (gA st 3) t p k + (gA st 3 k).toInt) := by
        show (if (gA st 2 k).toInt = t then _ else _) = _
        rw [if_pos q2]
      have e3 : iI (pk (gA st 2) (gA st 3) t p k) + gA st 3 k = iI (pk (gA st 2) (gA st 3) t p k + (gA st 3 k).toInt) := by
        rw [← iI_add, ← iI_of]
      rw [e3, hdX ⟨by have := hs2.1; omega, by have := hs2.2; omega⟩] at f
      rw [f, g, iI_s]
      rw [e2] at w
      exact w
theorem k_paceX {st : St} {c : Nat} {t p : Int} (hc : c ≤ 20) (hx : gI st 2 = iI c) (hs : ∀ k, k < 20 → rI (-99) 99 (gA st 3 k)) (ht : B31 t) (hp : -99 ≤ p ∧ p ≤ 99) {post : Int32 → Prop} (hk : post (iI (pk (gA st 2) (gA st 3) t p c))) : wp_X6_paceAt st (iI t) (iI p) post := lp_paceX (post := post) (K := fun v => post v) hc hx hs ht hp hk c 0 (by omega)
theorem lp_paceM {mt : St} {c : Nat} {t p : Int} (hc : c ≤ 20) (hx : gI mt 10 = iI c) (hs : ∀ k, k < 20 → rI (-99) 99 (gA mt 9 k)) (ht : B31 t) (hp : -99 ≤ p ∧ p ≤ 99) {post : St → Prop} {K : Int32 → Prop} (hk : K (iI (pk (gA mt 8) (gA mt 9) t p c))) : ∀ (n k : Nat), k + n = c → ∃ m, wp_X11_layTurns_L36 post K (iI t) mt m (iI (pk (gA mt 8) (gA mt 9) t p k)) (iI k) := by
  intro n
  induction n with
  | zero =>
    intro k e
    have e : k = c := e
    subst e
    exact ⟨1, fun _ => hk, fun z => absurd (by rw [hx]; exact Int32.le_refl _) z⟩
  | succ n ih =>
    intro k e
    have hcl : (iI (k : Int)).toNatClampNeg = k := by rw [iI_cl (by omega) (by omega)]; omega
    have hin : vp_in (iI k) 20 := iI_in (by omega) (by omega) (by decide)
    obtain ⟨m, w⟩ := ih (k + 1) (by omega)
    refine ⟨m + 1, fun z => absurd z (by rw [hx, iI_le ⟨by omega, by omega⟩ ⟨by omega, by omega⟩]; omega), fun _ => ⟨hin, fun q x f => ?_, fun q => ⟨hin, ?_⟩⟩⟩
    · rw [f, iI_s]
      rw [hcl] at q
      have q2 : ¬ (gA mt 8 k).toInt = t := fun z => q (by rw [iI_of (gA mt 8 k), z])
      have e2 : pk (gA mt 8) (gA mt 9) t p (k + 1) = pk (gA mt 8) (gA mt 9) t p k := by
        show (if (gA mt 8 k).toInt = t then _ else _) = _
        rw [if_neg q2]
      rw [e2] at w
      exact w
    · rw [hcl] at q ⊢
      have q2 : (gA mt 8 k).toInt = t := by rw [q, iI_t ht]
      have hb := pk_b (pa := gA mt 8) (pb := gA mt 9) (t := t) hp k
      have hs2 := hs k (by omega)
      have e2 : pk (gA mt 8) (gA mt 9) t p (k + 1) = hd (pk (gA mt 8) (gA mt 9) t p k + (gA mt 9 k).toInt) := by
        show (if (gA mt 8 k).toInt = t then _ else _) = _
        rw [if_pos q2]
      have e3 : iI (pk (gA mt 8) (gA mt 9) t p k) + gA mt 9 k = iI (pk (gA mt 8) (gA mt 9) t p k + (gA mt 9 k).toInt) := by
        rw [← iI_add, ← iI_of]
      rw [e3]
      refine k_held ⟨by have := hs2.1; omega, by have := hs2.2; omega⟩ (fun x g => ?_)
      rw [g, iI_s]
      rw [e2] at w
      exact w
theorem k_near {q s : Int} (hq : -99 ≤ q ∧ q ≤ 99) (hs : 0 ≤ s ∧ s ≤ 9) {post : Int32 → Prop} (h : post (iI (sl q s))) : wp_X5_nearerToZero (iI q) (iI s) post := by
  have b : ∀ z : Int, -1000 ≤ z ∧ z ≤ 1000 → B31 z := fun z hz => ⟨by omega, by omega⟩
  have l0 : iI q ≤ (0 : Int32) ↔ q ≤ 0 := iI_le (b q (by omega)) (b 0 (by omega))
  have l1 : iI (q + s) < (0 : Int32) ↔ q + s < 0 := iI_lt (b (q + s) (by omega)) (b 0 (by omega))
  have l2 : (0 : Int32) < iI (q - s) ↔ 0 < q - s := iI_lt (b 0 (by omega)) (b (q - s) (by omega))
  unfold wp_X5_nearerToZero
  rw [iI_add, iI_sub]
  unfold sl at h
  refine ⟨fun z => ?_, fun z => ?_⟩
  · rw [l0] at z
    rw [if_neg (by omega)] at h
    by_cases w : q + s < 0
    · rw [if_pos w] at h; rw [if_pos (l1.mpr w)]; exact h
    · rw [if_neg w] at h; rw [if_neg (fun y => w (l1.mp y))]; exact h
  · rw [l0] at z
    rw [if_pos (by omega)] at h
    by_cases w : 0 < q - s
    · rw [if_pos w] at h; rw [if_pos (l2.mpr w)]; exact h
    · rw [if_neg w] at h; rw [if_neg (fun y => w (l2.mp y))]; exact h
/-- what is known of pushes, slows -/
def Pz (st : St) (c : Nat) (s : Int) : Prop := c ≤ 20 ∧ gI st 2 = iI c ∧ (∀ k, k < 20 → rI (-99) 99 (gA st 3 k)) ∧ gA st 1 1 = iI s ∧ 0 ≤ s ∧ s ≤ 9
def Qz (mt : St) (c : Nat) (s : Int) : Prop := c ≤ 20 ∧ gI mt 10 = iI c ∧ (∀ k, k < 20 → rI (-99) 99 (gA mt 9 k)) ∧ gA mt 3 1 = iI s ∧ 0 ≤ s ∧ s ≤ 9
theorem lp_run {st : St} {c : Nat} {s p0 : Int} (hz : Pz st c s) (hp : -99 ≤ p0 ∧ p0 ≤ 99) {post K : St → Prop} (hk : ∀ t, FR [] [8, 9] st t → (∀ k, k ≤ 60 → gA t 8 k = iI (ap (gA st 2) (gA st 3) c s p0 k).1 ∧ gA t 9 k = iI (ap (gA st 2) (gA st 3) c s p0 k).2) → K t) : ∀ (n i : Nat), i + n = 60 → ∀ t, FR [] [8, 9] st t → (∀ k, k ≤ i → gA t 8 k = iI (ap (gA st 2) (gA st 3) c s p0 k).1 ∧ gA t 9 k = iI (ap (gA st 2) (gA st 3) c s p0 k).2) → ∃ m, wp_X5_run_L16 post K m t (iI i) := by
  obtain ⟨hc, hx, hs, hsl, hs0, hs9⟩ := hz
  intro n
  induction n with
  | zero =>
    intro i e t hf ha
    have e : i = 60 := e
    subst e
    exact ⟨1, fun _ => hk t hf ha, fun z => absurd (by decide) z⟩
  | succ n ih =>
    intro i e t hf ha
    have hcl : (iI (i : Int)).toNatClampNeg = i := by rw [iI_cl (by omega) (by omega)]; omega
    have hcl1 : (iI ((i + 1 : Nat) : Int)).toNatClampNeg = i + 1 := by rw [iI_cl (by omega) (by omega)]; omega
    have hin : vp_in (iI i) 61 := iI_in (by omega) (by omega) (by decide)
    have hin1 : vp_in (iI ((i + 1 : Nat) : Int)) 61 := iI_in (by omega) (by omega) (by decide)
    have hb := ap_b (pa := gA st 2) (pb := gA st 3) (c := c) hp hs0 i
    have hq := pk_b (pa := gA st 2) (pb := gA st 3) (t := (i : Int)) hb.2 c
    have h2 : gA t 2 = gA st 2 := hf.2 2 (by decide)
    have h3 : gA t 3 = gA st 3 := hf.2 3 (by decide)
    generalize hqe : pk (gA st 2) (gA st 3) i (ap (gA st 2) (gA st 3) c s p0 i).2 c = q at hq
    generalize hae : (ap (gA st 2) (gA st 3) c s p0 i).1 = a at hb
    have hn1 : (ap (gA st 2) (gA st 3) c s p0 (i + 1)).1 = (a + q) % 240 := by
      show ((ap (gA st 2) (gA st 3) c s p0 i).1 + pk (gA st 2) (gA st 3) i (ap (gA st 2) (gA st 3) c s p0 i).2 c) % 240 = _
      rw [hqe, hae]
    have hn2 : (ap (gA st 2) (gA st 3) c s p0 (i + 1)).2 = sl q s := by
      show sl (pk (gA st 2) (gA st 3) i (ap (gA st 2) (gA st 3) c s p0 i).2 c) s = _
      rw [hqe]
    obtain ⟨m, w⟩ := ih (i + 1) (by omega) (sA (sA t 8 (upd (gA t 8) (i + 1) (iI ((a + q) % 240)))) 9 (upd (gA t 9) (i + 1) (iI (sl q s)))) ((hf.tr (FR.sA 8 _ (by decide))).tr (FR.sA 9 _ (by decide))) (fun k hk2 => by
      show upd (gA t 8) (i + 1) (iI ((a + q) % 240)) k = _ ∧ upd (gA t 9) (i + 1) (iI (sl q s)) k = _
      by_cases e : k = i + 1
      · rw [e, upd_s, upd_s, hn1, hn2]; exact ⟨rfl, rfl⟩
      · rw [upd_n _ _ e, upd_n _ _ e]; exact ha k (by omega))
    refine ⟨m + 1, fun z => absurd z (by rw [show (60 : Int32) = iI 60 from rfl, iI_le ⟨by decide, by decide⟩ ⟨by omega, by omega⟩]; omega), fun _ => ⟨hin, ?_⟩⟩
    rw [hcl, (ha i (Nat.le_refl _)).2, (ha i (Nat.le_refl _)).1, hae, iI_s, hcl1]
    refine k_paceX hc (by rw [hf.1 2 (by decide)]; exact hx) (by rw [h3]; exact hs) ⟨by omega, by omega⟩ hb.2 ?_
    rw [h2, h3, hqe]
    refine ⟨hin, ?_⟩
    rw [iI_add]
    refine k_fm (n := 240) ⟨by omega, by omega⟩ (Or.inr rfl) ⟨hin1, ?_⟩
    have hsx : gA (sA t 8 (upd (gA t 8) (i + 1) (iI ((a + q) % 240)))) 1 (1 : Int32).toNatClampNeg = iI s := by
      show gA t 1 1 = iI s
      rw [hf.2 1 (by decide)]; exact hsl
    unfold wp_X7_slows
    rw [hsx]
    refine k_near hq ⟨hs0, hs9⟩ ⟨hin1, fun x f => ?_⟩
    rw [f]
    exact w
theorem k_run {st : St} {c : Nat} {s p0 : Int} (hz : Pz st c s) (hp : -99 ≤ p0 ∧ p0 ≤ 99) {post : St → Prop} (hk : ∀ t, FR [] [8, 9] st t → (∀ k, k ≤ 60 → gA t 8 k = iI (ap (gA st 2) (gA st 3) c s p0 k).1 ∧ gA t 9 k = iI (ap (gA st 2) (gA st 3) c s p0 k).2) → post t) : wp_X5_run st (iI p0) post := by
  refine lp_run (post := post) (K := fun t => post t) hz hp hk 60 0 (by omega) _ (((FR.rf _ _ st).tr (FR.sA 8 _ (by decide))).tr (FR.sA 9 _ (by decide))) (fun k hk2 => ?_)
  rw [show k = 0 by omega]
  exact ⟨rfl, rfl⟩
theorem lp_lay {mt : St} {c : Nat} {s p0 : Int} (hz : Qz mt c s) (hp : -99 ≤ p0 ∧ p0 ≤ 99) {post K : St → Prop} (hk : ∀ t, FR [] [4, 5] mt t → (∀ k, k ≤ 61 → gA t 4 k = iI (ap (gA mt 8) (gA mt 9) c s p0 k).1 ∧ gA t 5 k = iI (ap (gA mt 8) (gA mt 9) c s p0 k).2) → K t) : ∀ (n i : Nat), i + n = 61 → ∀ t, FR [] [4, 5] mt t → (∀ k, k ≤ i → gA t 4 k = iI (ap (gA mt 8) (gA mt 9) c s p0 k).1 ∧ gA t 5 k = iI (ap (gA mt 8) (gA mt 9) c s p0 k).2) → ∃ m, wp_X11_layTurns_L21 post K m t (iI i) := by
  obtain ⟨hc, hx, hs, hsl, hs0, hs9⟩ := hz
  intro n
  induction n with
  | zero =>
    intro i e t hf ha
    have e : i = 61 := e
    subst e
    exact ⟨1, fun _ => hk t hf ha, fun z => absurd (by decide) z⟩
  | succ n ih =>
    intro i e t hf ha
    have hcl : (iI (i : Int)).toNatClampNeg = i := by rw [iI_cl (by omega) (by omega)]; omega
    have hcl1 : (iI ((i + 1 : Nat) : Int)).toNatClampNeg = i + 1 := by rw [iI_cl (by omega) (by omega)]; omega
    have hin : vp_in (iI i) 62 := iI_in (by omega) (by omega) (by decide)
    have hin1 : vp_in (iI ((i + 1 : Nat) : Int)) 62 := iI_in (by omega) (by omega) (by decide)
    have hb := ap_b (pa := gA mt 8) (pb := gA mt 9) (c := c) hp hs0 i
    have hq := pk_b (pa := gA mt 8) (pb := gA mt 9) (t := (i : Int)) hb.2 c
    have h2 : gA t 8 = gA mt 8 := hf.2 8 (by decide)
    have h3 : gA t 9 = gA mt 9 := hf.2 9 (by decide)
    generalize hqe : pk (gA mt 8) (gA mt 9) i (ap (gA mt 8) (gA mt 9) c s p0 i).2 c = q at hq
    generalize hae : (ap (gA mt 8) (gA mt 9) c s p0 i).1 = a at hb
    have hn1 : (ap (gA mt 8) (gA mt 9) c s p0 (i + 1)).1 = (a + q) % 240 := by
      show ((ap (gA mt 8) (gA mt 9) c s p0 i).1 + pk (gA mt 8) (gA mt 9) i (ap (gA mt 8) (gA mt 9) c s p0 i).2 c) % 240 = _
      rw [hqe, hae]
    have hn2 : (ap (gA mt 8) (gA mt 9) c s p0 (i + 1)).2 = sl q s := by
      show sl (pk (gA mt 8) (gA mt 9) i (ap (gA mt 8) (gA mt 9) c s p0 i).2 c) s = _
      rw [hqe]
    obtain ⟨m, w⟩ := ih (i + 1) (by omega) (sA (sA t 4 (upd (gA t 4) (i + 1) (iI ((a + q) % 240)))) 5 (upd (gA t 5) (i + 1) (iI (sl q s)))) ((hf.tr (FR.sA 4 _ (by decide))).tr (FR.sA 5 _ (by decide))) (fun k hk2 => by
      show upd (gA t 4) (i + 1) (iI ((a + q) % 240)) k = _ ∧ upd (gA t 5) (i + 1) (iI (sl q s)) k = _
      by_cases e : k = i + 1
      · rw [e, upd_s, upd_s, hn1, hn2]; exact ⟨rfl, rfl⟩
      · rw [upd_n _ _ e, upd_n _ _ e]; exact ha k (by omega))
    have b : ∀ z : Int, -1000 ≤ z ∧ z ≤ 1000 → B31 z := fun z hz => ⟨by omega, by omega⟩
    have hsx : gA t 3 1 = iI s := by rw [hf.2 3 (by decide)]; exact hsl
    refine ⟨m + 1, fun z => absurd z (by rw [show (60 : Int32) = iI 60 from rfl, iI_lt ⟨by decide, by decide⟩ ⟨by omega, by omega⟩]; omega), fun _ => ⟨hin, fun x6 e6 => ?_⟩⟩
    rw [hcl, (ha i (Nat.le_refl _)).2] at e6
    subst e6
    rw [hcl, (ha i (Nat.le_refl _)).1, hae, iI_s, hcl1]
    refine lp_paceM (mt := t) (c := c) (t := (i : Int)) (p := (ap (gA mt 8) (gA mt 9) c s p0 i).2) hc (by rw [hf.1 10 (by decide)]; exact hx) (by rw [h3]; exact hs) (b _ (by omega)) hb.2 (post := post) ?_ c 0 (by omega)
    rw [h2, h3, hqe]
    refine ⟨hin, fun x21 e21 => ?_⟩
    have e21' : x21 = iI (if 0 ≤ a + q then (a + q) % 240 else a + q) := by
      rw [e21, iI_add, show (240 : Int32) = iI 240 from rfl, iI_div (b _ (by omega)) ⟨by decide, by decide⟩ (by decide), iI_mul, iI_sub, td_eq]
      congr 1
      by_cases z : 0 ≤ a + q
      · rw [if_pos z, if_pos z]; omega
      · rw [if_neg z, if_neg z]; omega
    -- what follows is the same for both angles
    have tl : ∀ x24 : Int32, x24 = gA t 3 (1 : Int32).toNatClampNeg → (((iI q ≤ x24) → ((((-x24) ≤ iI q) → (vp_in (iI ((i + 1 : Nat) : Int)) 62 ∧ (∀ x28 : Int32, x28 = iI ((i + 1 : Nat) : Int) → (wp_X11_layTurns_L21 post K m (sA (sA t 4 (upd (gA t 4) (i + 1) (iI ((a + q) % 240)))) 5 (upd (gA t 5) (i + 1) 0)) x28)))) ∧ ((¬ (-x24) ≤ iI q) → (∀ x30 : Int32, x30 = (iI q + x24) → (vp_in (iI ((i + 1 : Nat) : Int)) 62 ∧ (∀ x32 : Int32, x32 = iI ((i + 1 : Nat) : Int) → (wp_X11_layTurns_L21 post K m (sA (sA t 4 (upd (gA t 4) (i + 1) (iI ((a + q) % 240)))) 5 (upd (gA t 5) (i + 1) x30)) x32))))))) ∧ ((¬ iI q ≤ x24) → (∀ x34 : Int32, x34 = (iI q - x24) → (vp_in (iI ((i + 1 : Nat) : Int)) 62 ∧ (∀ x36 : Int32, x36 = iI ((i + 1 : Nat) : Int) → (wp_X11_layTurns_L21 post K m (sA (sA t 4 (upd (gA t 4) (i + 1) (iI ((a + q) % 240)))) 5 (upd (gA t 5) (i + 1) x34)) x36)))))) := by
      intro x24 e24
      have e24 : x24 = iI s := e24.trans hsx
      subst e24
      rw [iI_neg, iI_le (b q (by omega)) (b s (by omega)), iI_le (b (-s) (by omega)) (b q (by omega)), iI_add, iI_sub]
      refine ⟨fun z1 => ⟨fun z2 => ⟨hin1, fun y f => ?_⟩, fun z2 y1 f1 => ⟨hin1, fun y f => ?_⟩⟩, fun z1 y1 f1 => ⟨hin1, fun y f => ?_⟩⟩
      · have hsv : sl q s = 0 := by
          unfold sl
          by_cases z3 : 0 < q
          · rw [if_pos z3, if_neg (by omega)]
          · rw [if_neg z3]
            by_cases z4 : q + s < 0
            · omega
            · rw [if_neg z4]
        rw [hsv] at w
        rw [f]; exact w
      · have hsv : sl q s = q + s := by
          unfold sl
          rw [if_neg (by omega), if_pos (by omega)]
        rw [hsv] at w
        rw [f, f1]; exact w
      · have hsv : sl q s = q - s := by
          unfold sl
          rw [if_pos (by omega), if_pos (by omega)]
        rw [hsv] at w
        rw [f, f1]; exact w
    by_cases z : 0 ≤ a + q
    · rw [if_pos z] at e21'
      subst e21'
      refine ⟨fun _ => ⟨hin1, tl⟩, fun z2 => absurd ?_ z2⟩
      rw [show (0 : Int32) = iI 0 from rfl, iI_le ⟨by decide, by decide⟩ (b _ (by omega))]; omega
    · rw [if_neg z] at e21'
      subst e21'
      refine ⟨fun z2 => ?_, fun _ x38 e38 => ?_⟩
      · rw [show (0 : Int32) = iI 0 from rfl, iI_le ⟨by decide, by decide⟩ (b _ (by omega))] at z2
        exact absurd z2 z
      · have e39 : x38 = iI ((a + q) % 240) := by
          rw [e38, show (240 : Int32) = iI 240 from rfl, iI_add]
          congr 1
          omega
        subst e39
        exact ⟨hin1, tl⟩
theorem k_lay {mt : St} {c : Nat} {s p0 : Int} (hz : Qz mt c s) (hp : -99 ≤ p0 ∧ p0 ≤ 99) (hp0 : gA mt 3 0 = iI p0) {post : St → Prop} (hk : ∀ t, FR [] [4, 5] mt t → (∀ k, k ≤ 61 → gA t 4 k = iI (ap (gA mt 8) (gA mt 9) c s p0 k).1 ∧ gA t 5 k = iI (ap (gA mt 8) (gA mt 9) c s p0 k).2) → post t) : wp_X11_layTurns mt post := by
  intro x1 e1
  have e1 : x1 = iI p0 := e1.trans hp0
  subst e1
  refine lp_lay (post := post) (K := fun t => post t) hz hp hk 61 0 (by omega) _ (((FR.rf _ _ mt).tr (FR.sA 4 _ (by decide))).tr (FR.sA 5 _ (by decide))) (fun k hk2 => ?_)
  rw [show k = 0 by omega]
  exact ⟨rfl, rfl⟩
