/-! the likeliest pace, and spans -/
def st1p (B : Int → Int) (s b : Int) : Int := if B s < B b then s else b
def st2p (B : Int → Int) (s b : Int) : Int := st1p B (-s) (st1p B s b)
def lk (B : Int → Int) : Nat → Int
  | 0 => 0
  | k + 1 => st2p B ((k + 1 : Nat) : Int) (lk B k)
theorem st1_b {B : Int → Int} {s b : Int} (hs : -60 ≤ s ∧ s ≤ 60) (hb : -60 ≤ b ∧ b ≤ 60) : -60 ≤ st1p B s b ∧ st1p B s b ≤ 60 := by
  unfold st1p
  by_cases q : B s < B b
  · rw [if_pos q]; exact hs
  · rw [if_neg q]; exact hb
theorem lk_b (B : Int → Int) : ∀ k, k ≤ 60 → -60 ≤ lk B k ∧ lk B k ≤ 60 := by
  intro k
  induction k with
  | zero => intro _; exact ⟨(show (-60 : Int) ≤ 0 by decide), (show (0 : Int) ≤ 60 by decide)⟩
  | succ k ih =>
    intro hk
    exact st1_b (by omega) (st1_b (by omega) (ih (by omega)))
/-- sums of a film, over all paces -/
def BD (fx fy : Nat → Int) (N : Nat) (p : Int) : Int := bd fx fy p (N - 2)
theorem BD_b {fx fy : Nat → Int} {N : Nat} (h : FBd fx fy) (hN : N ≤ 24) (p : Int) : 0 ≤ BD fx fy N p ∧ BD fx fy N p ≤ 704000 := by
  have := bd_b h p (N - 2) (by omega)
  unfold BD
  omega
theorem BD_le {fx fy : Nat → Int} {N : Nat} (h : FBd fx fy) (hN : N ≤ 24) (p q : Int) : (iI (BD fx fy N p) ≤ iI (BD fx fy N q)) ↔ ¬ BD fx fy N q < BD fx fy N p := by
  have a := BD_b h hN p
  have b := BD_b h hN q
  rw [iI_le ⟨by omega, by omega⟩ ⟨by omega, by omega⟩]
  omega
theorem k_bendB {st : St} {fx fy : Nat → Int} {N : Nat} (hs : XFm st fx fy N) {p : Int} (hp : -60 ≤ p ∧ p ≤ 60) {post : Int32 → Prop} (h : post (iI (BD fx fy N p))) : wp_X2_bend st (iI p) post := k_bend hs hp h
theorem k_bentB {u : St} {fx fy : Nat → Int} {N : Nat} (hu : MFm u fx fy N) {p : Int} (hp : -60 ≤ p ∧ p ≤ 60) {post : Int32 → St → Prop} (h : ∀ u', FR [1, 2] [28, 29] u u' → MFm u' fx fy N → post (iI (BD fx fy N p)) u') : wp_X11_bentOf u (iI p) post := k_bentM hu hp (fun u' a => h u' a (hu.fr a))
theorem lk_side {st : St} {fx fy : Nat → Int} {N : Nat} (hs : XFm st fx fy N) {s b : Int} (hs2 : 1 ≤ s ∧ s ≤ 60) (hb : -60 ≤ b ∧ b ≤ 60) {post : Int32 → Prop} {K : Int32 → Int32 → Prop} (h : K (iI (st2p (BD fx fy N) s b)) (iI (BD fx fy N (st2p (BD fx fy N) s b)))) : wp_X2_likeliestPace_L19 post K st (iI s) 3 (iI b) (iI (BD fx fy N b)) 0 := by
  have le := fun p q => BD_le hs.2.2.1 hs.2.1 (N := N) p q
  have second : ∀ c : Int, -60 ≤ c ∧ c ≤ 60 → st2p (BD fx fy N) s b = st1p (BD fx fy N) (-s) c → wp_X2_likeliestPace_L19 post K st (iI s) 2 (iI c) (iI (BD fx fy N c)) 1 := by
    intro c hc ec
    rw [ec] at h
    unfold st1p at h
    refine ⟨fun z => absurd z (by decide), fun _ => ⟨fun _ x14 e14 => ?_, fun z => absurd z (by decide)⟩⟩
    rw [iI_neg] at e14
    rw [e14]
    refine k_bendB hs (by omega) ?_
    rw [le]
    refine ⟨fun z x19 e19 => ?_, fun z x21 e21 => ?_⟩
    · rw [if_neg z] at h
      rw [e19]
      exact ⟨fun _ => h, fun w => absurd (by decide) w⟩
    · rw [if_pos (Classical.not_not.mp z)] at h
      rw [e21]
      exact ⟨fun _ => h, fun w => absurd (by decide) w⟩
  refine ⟨fun z => absurd z (by decide), fun _ => ⟨fun z => absurd rfl z, fun _ => k_bendB hs (by omega) ?_⟩⟩
  rw [le]
  refine ⟨fun z x26 e26 => ?_, fun z x28 e28 => ?_⟩
  · rw [e26]
    refine second b hb ?_
    unfold st2p
    rw [show st1p (BD fx fy N) s b = b from if_neg z]
  · rw [e28]
    refine second s (by omega) ?_
    unfold st2p
    rw [show st1p (BD fx fy N) s b = s from if_pos (Classical.not_not.mp z)]
theorem lp_lk {st : St} {fx fy : Nat → Int} {N : Nat} (hs : XFm st fx fy N) {post : Int32 → Prop} {K : Int32 → Prop} (h : K (iI (lk (BD fx fy N) 60))) : ∀ n k, k + n = 60 → wp_X2_likeliestPace_L10 post K st (n + 1) (iI (lk (BD fx fy N) k)) (iI (BD fx fy N (lk (BD fx fy N) k))) (iI ((k + 1 : Nat) : Int)) := by
  intro n
  induction n with
  | zero =>
    intro k hk
    have c1 : (60 : Int32) < iI ((k + 1 : Nat) : Int) := (iI_lt (a := 60) ⟨by decide, by decide⟩ ⟨by omega, by omega⟩).mpr (by omega)
    refine ⟨fun _ => ?_, fun z => absurd c1 z⟩
    rw [show k = 60 by omega]
    exact h
  | succ n ih =>
    intro k hk
    have c1 : ¬ (60 : Int32) < iI ((k + 1 : Nat) : Int) := fun z => by
      have := (iI_lt (a := 60) ⟨by decide, by decide⟩ ⟨by omega, by omega⟩).mp z
      omega
    have e1 : iI ((k + 1 : Nat) : Int) + 1 = iI ((k + 1 + 1 : Nat) : Int) := iI_add _ 1
    refine ⟨fun z => absurd z c1, fun _ => ⟨3, lk_side hs (by omega) (lk_b _ k (by omega)) (fun x33 e33 => ?_)⟩⟩
    rw [e33, e1]
    exact ih (k + 1) (by omega)
theorem k_like {st : St} {fx fy : Nat → Int} {N : Nat} (hs : XFm st fx fy N) {post : Int32 → Prop} (h : post (iI (lk (BD fx fy N) 60))) : wp_X2_likeliestPace st post := by
  have z : (0 : Int32) = iI 0 := rfl
  unfold wp_X2_likeliestPace
  rw [z]
  refine k_bendB hs (by decide) ⟨61, ?_⟩
  exact lp_lk hs (post := post) (K := fun v35 => post v35) h 60 0 rfl
theorem lp_tk {fx fy : Nat → Int} {N : Nat} {post : Int32 → St → Prop} {K : St → Int32 → Prop} : ∀ n k, k + n = 60 → ∀ u, MFm u fx fy N → (∀ u', FR [1, 2] [28, 29] u u' → MFm u' fx fy N → K u' (iI (lk (BD fx fy N) 60))) → wp_X11_turnedBy_L4 post K (n + 1) u (iI (lk (BD fx fy N) k)) (iI ((k + 1 : Nat) : Int)) := by
  intro n
  induction n with
  | zero =>
    intro k hk u hu h
    have c1 : (60 : Int32) < iI ((k + 1 : Nat) : Int) := (iI_lt (a := 60) ⟨by decide, by decide⟩ ⟨by omega, by omega⟩).mpr (by omega)
    refine ⟨fun _ => ?_, fun z => absurd c1 z⟩
    rw [show k = 60 by omega]
    exact h u (FR.rf _ _ _) hu
  | succ n ih =>
    intro k hk u hu h
    have c1 : ¬ (60 : Int32) < iI ((k + 1 : Nat) : Int) := fun z => by
      have := (iI_lt (a := 60) ⟨by decide, by decide⟩ ⟨by omega, by omega⟩).mp z
      omega
    have e1 : iI ((k + 1 : Nat) : Int) + 1 = iI ((k + 1 + 1 : Nat) : Int) := iI_add _ 1
    have le := fun p q => BD_le hu.2.2.1 hu.2.1 (N := N) p q
    have lb := lk_b (BD fx fy N) k (by omega)
    have es : lk (BD fx fy N) (k + 1) = st1p (BD fx fy N) (-((k + 1 : Nat) : Int)) (st1p (BD fx fy N) ((k + 1 : Nat) : Int) (lk (BD fx fy N) k)) := rfl
    have nx := ih (k + 1) (by omega)
    rw [es] at nx
    generalize lk (BD fx fy N) k = b at lb nx ⊢
    have hs : -60 ≤ ((k + 1 : Nat) : Int) ∧ ((k + 1 : Nat) : Int) ≤ 60 := by omega
    generalize hsv : ((k + 1 : Nat) : Int) = s at hs nx e1 ⊢
    have hs' : -60 ≤ -s ∧ -s ≤ 60 := by omega
    refine ⟨fun z => absurd z (by rw [hsv] at c1; exact c1), fun _ => k_bentB hu hs (fun u1 f1 hu1 => k_bentB hu1 lb (fun u2 f2 hu2 => ?_))⟩
    rw [le, iI_neg]
    refine ⟨fun z => ?_, fun z => ?_⟩
    · rw [show st1p (BD fx fy N) s b = b from if_neg z] at nx
      refine k_bentB hu2 hs' (fun u3 f3 hu3 => k_bentB hu3 lb (fun u4 f4 hu4 => ?_))
      have nx4 := nx u4 hu4 (fun u' a b => h u' (((f1.tr f2).tr (f3.tr f4)).tr a) b)
      rw [le]
      refine ⟨fun w x15 e15 => ?_, fun w x17 e17 x19 e19 => ?_⟩
      · rw [show st1p (BD fx fy N) (-s) b = b from if_neg w] at nx4
        rw [e15, e1]
        exact nx4
      · rw [show st1p (BD fx fy N) (-s) b = -s from if_pos (Classical.not_not.mp w)] at nx4
        rw [e17, e19, e1]
        exact nx4
    · rw [show st1p (BD fx fy N) s b = s from if_pos (Classical.not_not.mp z)] at nx
      refine k_bentB hu2 hs' (fun u3 f3 hu3 => k_bentB hu3 hs (fun u4 f4 hu4 => ?_))
      have nx4 := nx u4 hu4 (fun u' a b => h u' (((f1.tr f2).tr (f3.tr f4)).tr a) b)
      rw [le]
      refine ⟨fun w x15 e15 => ?_, fun w x17 e17 x19 e19 => ?_⟩
      · rw [show st1p (BD fx fy N) (-s) s = s from if_neg w] at nx4
        rw [e15, e1]
        exact nx4
      · rw [show st1p (BD fx fy N) (-s) s = -s from if_pos (Classical.not_not.mp w)] at nx4
        rw [e17, e19, e1]
        exact nx4
theorem k_turnedB {u : St} {fx fy : Nat → Int} {N : Nat} (hu : MFm u fx fy N) {post : Int32 → St → Prop} (h : ∀ u', FR [1, 2] [28, 29] u u' → MFm u' fx fy N → post (iI (lk (BD fx fy N) 60)) u') : wp_X11_turnedBy u post := ⟨61, lp_tk (post := post) (K := fun t33 v32 => post v32 t33) 60 0 rfl u hu h⟩
theorem three {N : Nat} (hN : N ≤ 24) : ((iI (N : Int) < 3) ↔ N < 3) ∧ ((3 ≤ iI (N : Int)) ↔ 3 ≤ N) := by
  have a := iI_lt (a := (N : Int)) (b := 3) ⟨by omega, by omega⟩ ⟨by decide, by decide⟩
  have b := iI_le (a := 3) (b := (N : Int)) ⟨by decide, by decide⟩ ⟨by omega, by omega⟩
  refine ⟨⟨fun z => ?_, fun z => a.mpr (by omega)⟩, ⟨fun z => ?_, fun z => b.mpr (by omega)⟩⟩
  · have := a.mp z
    omega
  · have := b.mp z
    omega
theorem k_tells {st : St} {fx fy : Nat → Int} {N : Nat} (hs : XFm st fx fy N) {post : Int32 → Prop} (h : post (bI (3 ≤ N))) : wp_X2_tells st post := by
  unfold wp_X2_tells
  rw [hs.1, (three hs.2.1).1]
  exact ⟨fun z => bI_0 h (by omega), fun z => bI_1 h (by omega)⟩
theorem o_turned (st mt : St) (j0 j1 : Option St) (h : LR st j0 j1 mt) : wp_X10_turned st (fun r => wp_X11_turned mt (fun r' mt' => r = r' ∧ LR st j0 j1 mt')) := by
  obtain ⟨fx, fy, N, hx, hm⟩ := film_of h
  refine k_tells hx (br' (fun c => ?_) (fun c => k_like hx ?_))
  · unfold wp_X11_turned
    rw [hm.1, (three hm.2.1).2]
    exact ⟨fun z => absurd z c, fun _ => ⟨rfl, h⟩⟩
  · unfold wp_X11_turned
    rw [hm.1, (three hm.2.1).2]
    exact ⟨fun _ => k_turnedB hm (fun u' hu _ => ⟨rfl, h.fr (FR.rf _ _ _) (hu.up (by decide) (by decide))⟩), fun z => absurd c z⟩
/-- the farthest pace towards a side -/
def fp (B : Int → Int) (sd bar best : Int) : Nat → Int
  | 0 => best
  | n + 1 => if bar < B (sd * (((n + 1 : Nat) : Int) - 60)) then fp B sd bar best n else sd * (((n + 1 : Nat) : Int) - 60)
theorem fp_at {B : Int → Int} {sd bar best : Int} (hsd : sd = 1 ∨ sd = -1) (hb : B best ≤ bar) : ∀ n : Nat, (n : Int) - 60 = sd * best → fp B sd bar best n = best := by
  intro n hn
  cases n with
  | zero => rfl
  | succ n =>
    have e : sd * (((n + 1 : Nat) : Int) - 60) = best := by
      rcases hsd with e | e <;> rw [e] at hn ⊢ <;> omega
    unfold fp
    rw [e, if_neg (by omega)]
theorem lp_fp {st : St} {fx fy : Nat → Int} {N : Nat} (hs : XFm st fx fy N) {sd bar best : Int} (hsd : sd = 1 ∨ sd = -1) (hbar : 0 ≤ bar ∧ bar ≤ 1000000) (hb : BD fx fy N best ≤ bar) (hb2 : -60 ≤ best ∧ best ≤ 60) {post : Int32 → Prop} : ∀ n : Nat, n ≤ 120 → sd * best ≤ (n : Int) - 60 → post (iI (fp (BD fx fy N) sd bar best n)) → wp_X2_farthestPace_L18 post (post (iI best)) st (iI sd) (iI best) (iI bar) (n + 1) (iI ((n : Int) - 60)) := by
  have hsb : -60 ≤ sd * best ∧ sd * best ≤ 60 := by
    rcases hsd with e | e <;> rw [e] <;> omega
  intro n
  induction n with
  | zero =>
    intro _ hle h
    refine ⟨fun _ => h, fun z => absurd ?_ z⟩
    rw [iI_mul]
    exact (iI_le ⟨by omega, by omega⟩ ⟨by omega, by omega⟩).mpr (by omega)
  | succ n ih =>
    intro hn hle h
    by_cases q : ((n + 1 : Nat) : Int) - 60 = sd * best
    · rw [fp_at hsd hb (n + 1) q] at h
      refine ⟨fun _ => h, fun z => absurd ?_ z⟩
      rw [iI_mul]
      exact (iI_le ⟨by omega, by omega⟩ ⟨by omega, by omega⟩).mpr (by omega)
    · have c1 : ¬ iI (((n + 1 : Nat) : Int) - 60) ≤ iI sd * iI best := fun z => by
        rw [iI_mul] at z
        have := (iI_le ⟨by omega, by omega⟩ ⟨by omega, by omega⟩).mp z
        omega
      have e1 : iI (((n + 1 : Nat) : Int) - 60) + (-1) = iI ((n : Int) - 60) := by
        rw [show (-1 : Int32) = iI (-1) from rfl, iI_add]
        congr 1
        omega
      have hp : -60 ≤ sd * (((n + 1 : Nat) : Int) - 60) ∧ sd * (((n + 1 : Nat) : Int) - 60) ≤ 60 := by
        rcases hsd with e | e <;> rw [e] <;> omega
      have bb := BD_b hs.2.2.1 hs.2.1 (N := N) (sd * (((n + 1 : Nat) : Int) - 60))
      refine ⟨fun z => absurd z c1, fun _ => ?_⟩
      rw [iI_mul]
      refine k_bendB hs hp ?_
      rw [iI_lt ⟨by omega, by omega⟩ ⟨by omega, by omega⟩]
      unfold fp at h
      refine ⟨fun z x13 e13 => ?_, fun z => ?_⟩
      · rw [if_pos z] at h
        rw [e13, e1]
        exact ih (by omega) (by omega) h
      · rw [if_neg z] at h
        exact h
theorem lp_fm {fx fy : Nat → Int} {N : Nat} {bar best : Int} (hbar : 0 ≤ bar ∧ bar ≤ 1000000) (hb : BD fx fy N best ≤ bar) (hb2 : -60 ≤ best ∧ best ≤ 60) {post : Int32 → St → Prop} {K : St → Int32 → Prop} : ∀ n : Nat, n ≤ 120 → 1 * best ≤ (n : Int) - 60 → ∀ u, MFm u fx fy N → (∀ u', FR [1, 2] [28, 29] u u' → K u' (iI (fp (BD fx fy N) (1) bar best n))) → wp_X11_span_L68 post K (iI bar) (n + 1) u (iI (1 * ((n : Int) - 60))) := by
  intro n
  induction n with
  | zero =>
    intro _ hle u hu h
    have eb : 1 * (((0 : Nat) : Int) - 60) = best := by omega
    have bb := BD_b hu.2.2.1 hu.2.1 (N := N) best
    rw [eb]
    refine k_bentB hu hb2 (fun u1 f1 hu1 => ?_)
    rw [iI_le ⟨by omega, by omega⟩ ⟨by omega, by omega⟩]
    exact ⟨fun _ => h u1 f1, fun z => absurd hb z⟩
  | succ n ih =>
    intro hn hle u hu h
    have hp : -60 ≤ 1 * (((n + 1 : Nat) : Int) - 60) ∧ 1 * (((n + 1 : Nat) : Int) - 60) ≤ 60 := by omega
    have bb := BD_b hu.2.2.1 hu.2.1 (N := N) (1 * (((n + 1 : Nat) : Int) - 60))
    have ef : fp (BD fx fy N) (1) bar best (n + 1) = if bar < BD fx fy N (1 * (((n + 1 : Nat) : Int) - 60)) then fp (BD fx fy N) (1) bar best n else 1 * (((n + 1 : Nat) : Int) - 60) := rfl
    rw [ef] at h
    refine k_bentB hu hp (fun u1 f1 hu1 => ?_)
    rw [iI_le ⟨by omega, by omega⟩ ⟨by omega, by omega⟩]
    refine ⟨fun z => ?_, fun z x21 e21 => ?_⟩
    · rw [if_neg (by omega)] at h
      exact h u1 f1
    · rw [if_pos (by omega)] at h
      have e1 : iI (1 * (((n + 1 : Nat) : Int) - 60)) + (-1) = iI (1 * ((n : Int) - 60)) := by
        rw [show (-1 : Int32) = iI (-1) from rfl, iI_add]
        congr 1
        omega
      have hne : 1 * best ≠ ((n + 1 : Nat) : Int) - 60 := fun w => by
        have : 1 * (((n + 1 : Nat) : Int) - 60) = best := by omega
        rw [this] at z
        exact z hb
      rw [e21, e1]
      exact ih (by omega) (by omega) u1 hu1 (fun u' a => h u' (f1.tr a))
theorem lp_fm1 {fx fy : Nat → Int} {N : Nat} {bar best : Int} (hbar : 0 ≤ bar ∧ bar ≤ 1000000) (hb : BD fx fy N best ≤ bar) (hb2 : -60 ≤ best ∧ best ≤ 60) {post : Int32 → St → Prop} {K : St → Int32 → Prop} : ∀ n : Nat, n ≤ 120 → -1 * best ≤ (n : Int) - 60 → ∀ u, MFm u fx fy N → (∀ u', FR [1, 2] [28, 29] u u' → K u' (iI (fp (BD fx fy N) (-1) bar best n))) → wp_X11_span_L68qqq post K (iI bar) (n + 1) u (iI (-1 * ((n : Int) - 60))) := by
  intro n
  induction n with
  | zero =>
    intro _ hle u hu h
    have eb : -1 * (((0 : Nat) : Int) - 60) = best := by omega
    have bb := BD_b hu.2.2.1 hu.2.1 (N := N) best
    rw [eb]
    refine k_bentB hu hb2 (fun u1 f1 hu1 => ?_)
    rw [iI_le ⟨by omega, by omega⟩ ⟨by omega, by omega⟩]
    exact ⟨fun _ => h u1 f1, fun z => absurd hb z⟩
  | succ n ih =>
    intro hn hle u hu h
    have hp : -60 ≤ -1 * (((n + 1 : Nat) : Int) - 60) ∧ -1 * (((n + 1 : Nat) : Int) - 60) ≤ 60 := by omega
    have bb := BD_b hu.2.2.1 hu.2.1 (N := N) (-1 * (((n + 1 : Nat) : Int) - 60))
    have ef : fp (BD fx fy N) (-1) bar best (n + 1) = if bar < BD fx fy N (-1 * (((n + 1 : Nat) : Int) - 60)) then fp (BD fx fy N) (-1) bar best n else -1 * (((n + 1 : Nat) : Int) - 60) := rfl
    rw [ef] at h
    refine k_bentB hu hp (fun u1 f1 hu1 => ?_)
    rw [iI_le ⟨by omega, by omega⟩ ⟨by omega, by omega⟩]
    refine ⟨fun z => ?_, fun z x21 e21 => ?_⟩
    · rw [if_neg (by omega)] at h
      exact h u1 f1
    · rw [if_pos (by omega)] at h
      have e1 : iI (-1 * (((n + 1 : Nat) : Int) - 60)) + (1) = iI (-1 * ((n : Int) - 60)) := by
        rw [show (1 : Int32) = iI (1) from rfl, iI_add]
        congr 1
        omega
      have hne : -1 * best ≠ ((n + 1 : Nat) : Int) - 60 := fun w => by
        have : -1 * (((n + 1 : Nat) : Int) - 60) = best := by omega
        rw [this] at z
        exact z hb
      rw [e21, e1]
      exact ih (by omega) (by omega) u1 hu1 (fun u' a => h u' (f1.tr a))
theorem k_farP {st : St} {fx fy : Nat → Int} {N : Nat} (hs : XFm st fx fy N) {sd sl : Int} (hsd : sd = 1 ∨ sd = -1) (hsl : 0 ≤ sl ∧ sl ≤ 9999) {post : Int32 → Prop} (h : post (iI (fp (BD fx fy N) sd (BD fx fy N (lk (BD fx fy N) 60) + sl) (lk (BD fx fy N) 60) 120))) : wp_X2_farthestPace st (iI sl) (iI sd) post := by
  have lb := lk_b (BD fx fy N) 60 (by decide)
  have bb := BD_b hs.2.2.1 hs.2.1 (N := N) (lk (BD fx fy N) 60)
  refine k_like hs (k_bendB hs lb (fun x5 e5 => ⟨121, ?_⟩))
  rw [iI_add] at e5
  rw [e5]
  exact lp_fp hs hsd (by omega) (by omega) lb 120 (by decide) (by rcases hsd with e | e <;> rw [e] <;> omega) h
theorem o_span (st mt : St) (j0 j1 : Option St) (a1 a2 : Int32) (h : LR st j0 j1 mt) : wp_X10_span st a1 a2 (fun r => wp_X11_span mt a1 a2 (fun r' mt' => r = r' ∧ LR st j0 j1 mt')) := by
  refine t_x (lo := 0) (hi := 9999) rfl rfl (br' (fun c => t_m (lo := 0) (hi := 9999) rfl rfl (br' (fun _ => ⟨rfl, h⟩) (fun z => absurd z c))) (fun c => ?_))
  refine t_x (lo := 0) (hi := 1) rfl rfl (br (fun d => ?_) (fun d => t_m (lo := 0) (hi := 9999) rfl rfl (br' (fun z => absurd c z) (fun _ => k_endM (br (fun z => absurd z d) (fun _ => ⟨rfl, h⟩))))))
  obtain ⟨fx, fy, N, hx, hm⟩ := film_of h
  have pre : ∀ post : Int32 → St → Prop, (((3 ≤ gI mt 27) → (wp_X11_turnedBy mt (fun r8 t9 => wp_X11_bentOf t9 r8 (fun r10 t11 => ∀ x12 : Int32, x12 = (r10 + a1) → (((¬ a2 = 0) → (((¬ a2 = 0) → (∃ m68 : Nat, wp_X11_span_L68 post (fun t24 v23 => post v23 t24) x12 m68 t11 60)) ∧ ((a2 = 0) → (∃ m68 : Nat, wp_X11_span_L68q post (fun t33 v32 => post v32 t33) x12 m68 t11 (-60))))) ∧ ((a2 = 0) → (((¬ a2 = 0) → (∃ m68 : Nat, wp_X11_span_L68qq post (fun t43 v42 => post v42 t43) x12 m68 t11 60)) ∧ ((a2 = 0) → (∃ m68 : Nat, wp_X11_span_L68qqq post (fun t52 v51 => post v51 t52) x12 m68 t11 (-60)))))))))) ∧ ((¬ 3 ≤ gI mt 27) → (post (-100000003) mt))) → wp_X11_span mt a1 a2 post := fun post H => t_m (lo := 0) (hi := 9999) rfl rfl (br' (fun z => absurd c z) (fun _ => k_endM (br (fun _ => H) (fun z => absurd d z))))
  rw [hm.1, (three hm.2.1).2] at pre
  refine k_tells hx (br' (fun e => pre _ ⟨fun z => absurd z e, fun _ => ⟨rfl, h⟩⟩) (fun e => ?_))
  have lb := lk_b (BD fx fy N) 60 (by decide)
  have bb := BD_b hx.2.2.1 hx.2.1 (N := N) (lk (BD fx fy N) 60)
  have ea : a1 = iI a1.toInt := iI_of _
  have run : ∀ (post : Int32 → St → Prop), (∀ x12 : Int32, x12 = iI (BD fx fy N (lk (BD fx fy N) 60) + a1.toInt) → ∀ u, FR [1, 2] [28, 29] mt u → MFm u fx fy N → (((¬ a2 = 0) → (((¬ a2 = 0) → (∃ m68 : Nat, wp_X11_span_L68 post (fun t24 v23 => post v23 t24) x12 m68 u 60)) ∧ ((a2 = 0) → (∃ m68 : Nat, wp_X11_span_L68q post (fun t33 v32 => post v32 t33) x12 m68 u (-60))))) ∧ ((a2 = 0) → (((¬ a2 = 0) → (∃ m68 : Nat, wp_X11_span_L68qq post (fun t43 v42 => post v42 t43) x12 m68 u 60)) ∧ ((a2 = 0) → (∃ m68 : Nat, wp_X11_span_L68qqq post (fun t52 v51 => post v51 t52) x12 m68 u (-60))))))) → wp_X11_span mt a1 a2 post := by
    intro post H
    refine pre post ⟨fun _ => k_turnedB hm (fun u1 f1 hu1 => k_bentB hu1 lb (fun u2 f2 hu2 x12 e12 => H x12 ?_ u2 (f1.tr f2) hu2)), fun z => absurd e z⟩
    rw [e12, ← iI_add, ← iI_of a1]
  clear pre
  have fin : ∀ {u' : St}, FR [1, 2] [28, 29] mt u' → LR st j0 j1 u' := fun z => h.fr (FR.rf _ _ _) (z.up (by decide) (by decide))
  by_cases z : a2 = 0
  · refine ⟨fun w => absurd z w, fun _ => ?_⟩
    rw [show (wp_X2_farthestPace st a1 (-1)) = wp_X2_farthestPace st (iI a1.toInt) (iI (-1)) by rw [← ea]; rfl]
    refine k_farP hx (.inr rfl) c (run _ (fun x12 e12 u fu hu => ⟨fun w => absurd z w, fun _ => ⟨fun w => absurd z w, fun _ => ⟨121, ?_⟩⟩⟩))
    rw [e12]
    exact lp_fm1 (by omega) (by omega) lb (post := _) (K := _) 120 (by decide) (by omega) u hu (fun u' a => ⟨rfl, fin (fu.tr a)⟩)
  · refine ⟨fun _ => ?_, fun w => absurd w z⟩
    rw [show (wp_X2_farthestPace st a1 1) = wp_X2_farthestPace st (iI a1.toInt) (iI 1) by rw [← ea]; rfl]
    refine k_farP hx (.inl rfl) c (run _ (fun x12 e12 u fu hu => ⟨fun _ => ⟨fun _ => ⟨121, ?_⟩, fun w => absurd w z⟩, fun w => absurd w z⟩))
    rw [e12]
    exact lp_fm (by omega) (by omega) lb (post := _) (K := _) 120 (by decide) (by omega) u hu (fun u' a => ⟨rfl, fin (fu.tr a)⟩)
