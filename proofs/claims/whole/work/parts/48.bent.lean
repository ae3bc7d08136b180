/-! how a film is bent -/
def an (p : Int) (i : Nat) : Int := ((i : Int) * p) % 240
def wf (p : Int) (i : Nat) : Nat := (an p i / 10).toNat
theorem an_b (p : Int) (i : Nat) : 0 ≤ an p i ∧ an p i < 240 := by
  unfold an
  generalize (i : Int) * p = z
  omega
theorem wf_b (p : Int) (i : Nat) : wf p i < 24 := by
  have := an_b p i
  unfold wf
  omega
theorem an_s (p : Int) (i : Nat) : an p (i + 1) = (an p i + p) % 240 := by
  have e : ((i + 1 : Nat) : Int) * p = (i : Int) * p + p := by
    rw [Int.natCast_add, Int.add_mul]
    exact congrArg (fun z => (i : Int) * p + z) (Int.one_mul p)
  unfold an
  rw [e]
  generalize (i : Int) * p = z
  omega
theorem an_d (p : Int) (i : Nat) : iI (an p i) / 10 = iI (wf p i : Int) := by
  have := an_b p i
  rw [show (10 : Int32) = iI 10 from rfl, iI_div ⟨by omega, by omega⟩ ⟨by decide, by decide⟩ (by decide), Int.tdiv_eq_ediv_of_nonneg this.1]
  unfold wf
  rw [Int.toNat_of_nonneg (by omega)]
def qX (fx fy : Nat → Int) (p : Int) (i : Nat) : Int := tX (fx i) (fy i) (wf p i)
def qY (fx fy : Nat → Int) (p : Int) (i : Nat) : Int := tY (fx i) (fy i) (wf p i)
def FBd (fx fy : Nat → Int) : Prop := ∀ k, k < 24 → (-2000 ≤ fx k ∧ fx k ≤ 2000) ∧ (-2000 ≤ fy k ∧ fy k ≤ 2000)
theorem q_b {fx fy : Nat → Int} (h : FBd fx fy) (p : Int) {i : Nat} (hi : i < 24) : (-4000 ≤ qX fx fy p i ∧ qX fx fy p i ≤ 4000) ∧ (-4000 ≤ qY fx fy p i ∧ qY fx fy p i ≤ 4000) := tXY_b (wf_b p i) (b := 2000) (by decide) (h i hi).1 (h i hi).2
def dX (fx fy : Nat → Int) (p : Int) (m : Nat) : Int := ((qX fx fy p (m + 2) + qX fx fy p m - 2 * qX fx fy p (m + 1)).natAbs : Int)
def dY (fx fy : Nat → Int) (p : Int) (m : Nat) : Int := ((qY fx fy p (m + 2) + qY fx fy p m - 2 * qY fx fy p (m + 1)).natAbs : Int)
theorem d_b {fx fy : Nat → Int} (h : FBd fx fy) (p : Int) {m : Nat} (hm : m + 2 < 24) : (0 ≤ dX fx fy p m ∧ dX fx fy p m ≤ 16000) ∧ (0 ≤ dY fx fy p m ∧ dY fx fy p m ≤ 16000) := by
  have a := q_b h p (i := m) (by omega)
  have b := q_b h p (i := m + 1) (by omega)
  have c := q_b h p (i := m + 2) (by omega)
  unfold dX dY
  omega
def bd (fx fy : Nat → Int) (p : Int) : Nat → Int
  | 0 => 0
  | m + 1 => bd fx fy p m + (dX fx fy p m + dY fx fy p m)
theorem bd_b {fx fy : Nat → Int} (h : FBd fx fy) (p : Int) : ∀ m, m ≤ 22 → 0 ≤ bd fx fy p m ∧ bd fx fy p m ≤ 32000 * m := by
  intro m
  induction m with
  | zero => intro _; exact ⟨Int.le_refl _, Int.le_refl _⟩
  | succ m ih =>
    intro hm
    have a := ih (by omega)
    have b := d_b h p (m := m) (by omega)
    show 0 ≤ bd fx fy p m + (dX fx fy p m + dY fx fy p m) ∧ bd fx fy p m + (dX fx fy p m + dY fx fy p m) ≤ _
    omega
/-- the film, in class and reference -/
def XFm (st : St) (fx fy : Nat → Int) (N : Nat) : Prop := gI st 4 = iI (N : Int) ∧ N ≤ 24 ∧ FBd fx fy ∧ ∀ k, k < 24 → gA st 4 k = iI (fx k) ∧ gA st 5 k = iI (fy k)
def MFm (u : St) (fx fy : Nat → Int) (N : Nat) : Prop := gI u 27 = iI (N : Int) ∧ N ≤ 24 ∧ FBd fx fy ∧ (∀ k, k < 24 → gA u 25 k = iI (fx k) ∧ gA u 26 k = iI (fy k)) ∧ ∀ k, k < 24 → gA u 0 k = zS k
theorem MFm.fr {u u' : St} {fx fy : Nat → Int} {N : Nat} (h : MFm u fx fy N) (h2 : FR [1, 2] [28, 29] u u') : MFm u' fx fy N := by
  unfold MFm
  rw [h2.1 27 (by decide), h2.2 25 (by decide), h2.2 26 (by decide), h2.2 0 (by decide)]
  exact h
theorem film_of {st mt : St} {j0 j1 : Option St} (h : LR st j0 j1 mt) : ∃ (fx fy : Nat → Int) (N : Nat), XFm st fx fy N ∧ MFm mt fx fy N := by
  obtain ⟨⟨s1, s2, s3, s4, s5, s6, s7, s8, s9⟩, ⟨b1, b2, b3, b4, b5, b6, b7⟩, hp, hs, hr⟩ := h
  obtain ⟨N, hN, e, -⟩ := cl_of (n := 24) b3.1 b3.2
  refine ⟨fun k => (gA st 4 k).toInt, fun k => (gA st 5 k).toInt, N, ⟨e, hN, fun k hk => b7 k hk, fun k hk => ⟨iI_of _, iI_of _⟩⟩, ⟨by rw [← s4]; exact e, hN, fun k hk => b7 k hk, fun k hk => ⟨?_, ?_⟩, hs⟩⟩
  · rw [← (s9 k hk).1]; exact iI_of _
  · rw [← (s9 k hk).2]; exact iI_of _
theorem k_wayF {p : Int} (hp : -60 ≤ p ∧ p ≤ 60) {i : Nat} (hi : i < 24) {post : Int32 → Prop} (h : post (iI (wf p i : Int))) : wp_X5_wayOf (iI (i : Int) * iI p) post := by
  unfold wp_X5_wayOf
  rw [iI_mul]
  have m := mul_b (a := (i : Int)) (m := 24) (by omega) (b := p) (n := 60) hp (by decide) (by decide)
  refine k_fm (n := 240) ⟨by omega, by omega⟩ (Or.inr rfl) ?_
  have e := an_d p i
  unfold an at e
  rw [e]
  exact h
theorem k_grX {st : St} {fx fy : Nat → Int} {N : Nat} (hs : XFm st fx fy N) {p : Int} (hp : -60 ≤ p ∧ p ≤ 60) {i : Nat} (hi : i < 24) {post : Int64 → Prop} (h : post (iL (qX fx fy p i))) : wp_X2_groundX st (iI (i : Int)) (iI p) post := by
  have hin : vp_in (iI (i : Int)) 24 := iI_in (by omega) (by omega) (by decide)
  have fb := hs.2.2.1 i hi
  refine ⟨hin, hin, k_wayF hp hi ?_⟩
  rw [cl_n (show i ≤ 24 by omega) (by decide), (hs.2.2.2 i hi).1, (hs.2.2.2 i hi).2, iI_L ⟨by omega, by omega⟩, iI_L ⟨by omega, by omega⟩]
  exact k_turnX (wf_b p i) ⟨by omega, by omega⟩ ⟨by omega, by omega⟩ h
theorem k_grY {st : St} {fx fy : Nat → Int} {N : Nat} (hs : XFm st fx fy N) {p : Int} (hp : -60 ≤ p ∧ p ≤ 60) {i : Nat} (hi : i < 24) {post : Int64 → Prop} (h : post (iL (qY fx fy p i))) : wp_X2_groundY st (iI (i : Int)) (iI p) post := by
  have hin : vp_in (iI (i : Int)) 24 := iI_in (by omega) (by omega) (by decide)
  have fb := hs.2.2.1 i hi
  refine ⟨hin, hin, k_wayF hp hi ?_⟩
  rw [cl_n (show i ≤ 24 by omega) (by decide), (hs.2.2.2 i hi).1, (hs.2.2.2 i hi).2, iI_L ⟨by omega, by omega⟩, iI_L ⟨by omega, by omega⟩]
  exact k_turnY (wf_b p i) ⟨by omega, by omega⟩ ⟨by omega, by omega⟩ h
theorem dL {a b c : Int} (ha : -4000 ≤ a ∧ a ≤ 4000) (hb : -4000 ≤ b ∧ b ≤ 4000) (hc : -4000 ≤ c ∧ c ≤ 4000) : (if 0 < ((iL a - (2 * iL b)) + iL c) then ((iL a - (2 * iL b)) + iL c) else -((iL a - (2 * iL b)) + iL c)) = iL ((c + a - 2 * b).natAbs : Int) := by
  have e : (iL a - (2 * iL b)) + iL c = iL (c + a - 2 * b) := by
    rw [show (2 : Int64) * iL b = iL (2 * b) from iL_mul 2 b, iL_sub, iL_add]
    congr 1
    omega
  rw [e, absL ⟨by omega, by omega⟩]
theorem lp_bd {st : St} {fx fy : Nat → Int} {N : Nat} (hs : XFm st fx fy N) {p : Int} (hp : -60 ≤ p ∧ p ≤ 60) {post : Int32 → Prop} {K : Int64 → Prop} (h : K (iL (bd fx fy p (N - 2)))) : ∀ n m, n = (N - 2) - m → m ≤ N - 2 → wp_X2_bend_L5 post K st (iI p) (n + 1) (iL (bd fx fy p m)) (iI ((m + 2 : Nat) : Int)) := by
  have hN := hs.2.1
  intro n
  induction n with
  | zero =>
    intro m hn hm
    have c1 : gI st 4 ≤ iI ((m + 2 : Nat) : Int) := by
      rw [hs.1]
      exact (iI_le ⟨by omega, by omega⟩ ⟨by omega, by omega⟩).mpr (by omega)
    rw [show m = N - 2 by omega] at c1 ⊢
    exact ⟨fun _ => h, fun z => absurd c1 z⟩
  | succ n ih =>
    intro m hn hm
    have c1 : ¬ gI st 4 ≤ iI ((m + 2 : Nat) : Int) := by
      rw [hs.1]
      intro z
      have := (iI_le ⟨by omega, by omega⟩ ⟨by omega, by omega⟩).mp z
      omega
    have e2 : iI ((m + 2 : Nat) : Int) - 2 = iI (m : Int) := by
      rw [show iI ((m + 2 : Nat) : Int) - 2 = iI (((m + 2 : Nat) : Int) - 2) from iI_sub _ 2]
      congr 1
      omega
    have e1 : iI ((m + 2 : Nat) : Int) - 1 = iI ((m + 1 : Nat) : Int) := by
      rw [show iI ((m + 2 : Nat) : Int) - 1 = iI (((m + 2 : Nat) : Int) - 1) from iI_sub _ 1]
      congr 1
      omega
    have e3 : iI ((m + 2 : Nat) : Int) + 1 = iI ((m + 1 + 2 : Nat) : Int) := iI_add _ 1
    have a := q_b hs.2.2.1 p (i := m) (by omega)
    have b := q_b hs.2.2.1 p (i := m + 1) (by omega)
    have c := q_b hs.2.2.1 p (i := m + 2) (by omega)
    refine ⟨fun z => absurd z c1, fun _ => ?_⟩
    rw [e2, e1]
    refine k_grX hs hp (by omega) (k_grX hs hp (by omega) (k_grX hs hp (by omega) (fun x11 e11 => ?_)))
    refine k_grY hs hp (by omega) (k_grY hs hp (by omega) (k_grY hs hp (by omega) (fun x19 e19 x21 e21 => ?_)))
    rw [dL a.1 b.1 c.1, iL_add] at e11
    rw [dL a.2 b.2 c.2, e11, iL_add, Int.add_assoc] at e19
    rw [e19, e21, e3]
    exact ih (m + 1) (by omega) (by omega)
theorem k_bend {st : St} {fx fy : Nat → Int} {N : Nat} (hs : XFm st fx fy N) {p : Int} (hp : -60 ≤ p ∧ p ≤ 60) {post : Int32 → Prop} (h : post (iI (bd fx fy p (N - 2)))) : wp_X2_bend st (iI p) post := by
  refine ⟨N - 2 + 1, ?_⟩
  exact lp_bd hs hp (post := post) (K := fun v => post v.toInt32) (by rw [iL_I]; exact h) (N - 2) 0 rfl (Nat.zero_le _)
theorem q_28 (u : St) (i : Nat) (a b : Int32) : FR [] [28, 29] u (sA (sA u 28 (upd (gA u 28) i a)) 29 (upd (gA u 29) i b)) ∧ gA (sA (sA u 28 (upd (gA u 28) i a)) 29 (upd (gA u 29) i b)) 28 = upd (gA u 28) i a ∧ gA (sA (sA u 28 (upd (gA u 28) i a)) 29 (upd (gA u 29) i b)) 29 = upd (gA u 29) i b := ⟨(FR.sA 28 _ (by decide)).tr (FR.sA 29 _ (by decide)), rfl, rfl⟩
theorem dI {a b c : Int} : (iI c + iI a) - (2 * iI b) = iI (c + a - 2 * b) := by
  rw [show (2 : Int32) * iI b = iI (2 * b) from iI_mul 2 b, iI_add, iI_sub]
theorem lp_bm {fx fy : Nat → Int} {N : Nat} {p : Int} (hp : -60 ≤ p ∧ p ≤ 60) {post : Int32 → St → Prop} {K : St → Int32 → Prop} : ∀ (n t : Nat), t + n = N → ∀ u, MFm u fx fy N → (∀ k, k < t → gA u 28 k = iI (qX fx fy p k) ∧ gA u 29 k = iI (qY fx fy p k)) → (∀ u', FR [1, 2] [28, 29] u u' → K u' (iI (bd fx fy p (N - 2)))) → wp_X11_bentOf_L7 post K (iI p) (n + 1) u (iI (an p t)) (iI (bd fx fy p (t - 2))) (iI (t : Int)) := by
  intro n
  induction n with
  | zero =>
    intro t ht u hu hk h
    rw [show t = N by omega]
    refine ⟨fun _ => h u (FR.rf _ _ _), fun z => absurd ?_ z⟩
    rw [hu.1]
    exact Int32.le_refl _
  | succ n ih =>
    intro t ht u hu hk h
    have hN := hu.2.1
    have c1 : ¬ gI u 27 ≤ iI (t : Int) := by
      rw [hu.1]
      intro z
      have := (iI_le ⟨by omega, by omega⟩ ⟨by omega, by omega⟩).mp z
      omega
    have e1 : iI (t : Int) + 1 = iI ((t + 1 : Nat) : Int) := iI_add _ 1
    have hin : vp_in (iI (t : Int)) 24 := iI_in (by omega) (by omega) (by decide)
    have cl : (iI (t : Int)).toNatClampNeg = t := cl_n (show t ≤ 24 by omega) (by decide)
    have fb := hu.2.2.1 t (by omega)
    have ab := an_b p t
    have as := an_s p t
    refine ⟨fun z => absurd z c1, fun _ => ⟨hin, hin, ?_⟩⟩
    rw [cl, (hu.2.2.2.1 t (by omega)).1, (hu.2.2.2.1 t (by omega)).2, an_d]
    refine k_turnP hu.2.2.2.2 (wf_b p t) ⟨by omega, by omega⟩ ⟨by omega, by omega⟩ ?_
    have r1 := tu_1 u (fx t) (fy t) (wf p t)
    have r2 := tu_2 u (fx t) (fy t) (wf p t)
    have rf := tu_f u (fx t) (fy t) (wf p t)
    unfold tu at r1 r2 rf
    generalize sI (sI u 1 (iI (tX (fx t) (fy t) (wf p t)))) 2 (iI (tY (fx t) (fy t) (wf p t))) = v at r1 r2 rf ⊢
    refine fun x8 e8 => ⟨hin, fun x10 e10 => ⟨hin, fun x12 e12 => ?_⟩⟩
    have f8 : x8 = iI (qX fx fy p t) := e8.trans r1
    have f10 : x10 = iI (qY fx fy p t) := e10.trans r2
    clear e8 e10 r1 r2
    subst f8 f10
    have f12 : x12 = iI (if 0 ≤ an p t + p then (an p t + p) % 240 else an p t + p) := by
      rw [e12, iI_add, show (240 : Int32) = iI 240 from rfl, iI_div ⟨by omega, by omega⟩ ⟨by decide, by decide⟩ (by decide), iI_mul, iI_sub, td_eq]
      congr 1
      by_cases z : 0 ≤ an p t + p
      · rw [if_pos z, if_pos z]; omega
      · rw [if_neg z, if_neg z]; omega
    clear e12
    obtain ⟨q0, q1, q2⟩ := q_28 v t (iI (qX fx fy p t)) (iI (qY fx fy p t))
    have fr : ∀ v', FR [] [28, 29] v v' → FR [1, 2] [28, 29] u v' := fun v' z => (rf.up (by decide) (by decide)).tr (z.up (by decide) (by decide))
    have w28 : gA v 28 = gA u 28 := rf.2 28 (by decide)
    have w29 : gA v 29 = gA u 29 := rf.2 29 (by decide)
    have nx : ∀ s : Int, s = bd fx fy p (t + 1 - 2) → wp_X11_bentOf_L7 post K (iI p) (n + 1) (sA (sA v 28 (upd (gA v 28) t (iI (qX fx fy p t)))) 29 (upd (gA v 29) t (iI (qY fx fy p t)))) (iI (an p (t + 1))) (iI s) (iI ((t + 1 : Nat) : Int)) := by
      intro s es
      rw [es]
      generalize sA (sA v 28 (upd (gA v 28) t (iI (qX fx fy p t)))) 29 (upd (gA v 29) t (iI (qY fx fy p t))) = v' at q0 q1 q2 ⊢
      refine ih (t + 1) (by omega) v' (hu.fr (fr v' q0)) (fun k hk2 => ?_) (fun u' a => h u' ((fr v' q0).tr a))
      rw [q1, q2]
      by_cases e : k = t
      · rw [e, upd_s, upd_s]; exact ⟨rfl, rfl⟩
      · rw [upd_n _ _ e, upd_n _ _ e, w28, w29]; exact hk k (by omega)
    have lt1 : iI (t : Int) ≤ 1 ↔ t ≤ 1 := by
      have := iI_le (a := (t : Int)) (b := 1) ⟨by omega, by omega⟩ ⟨by decide, by decide⟩
      constructor
      · intro z
        have := this.mp z
        omega
      · intro z
        exact this.mpr (by omega)
    have two : 2 ≤ t → vp_in (iI (t : Int) - 2) 24 ∧ vp_in (iI (t : Int) - 1) 24 ∧ upd (gA v 28) t (iI (qX fx fy p t)) (iI (t : Int) - 2).toNatClampNeg = iI (qX fx fy p (t - 2)) ∧ upd (gA v 28) t (iI (qX fx fy p t)) (iI (t : Int) - 1).toNatClampNeg = iI (qX fx fy p (t - 1)) ∧ upd (gA v 29) t (iI (qY fx fy p t)) (iI (t : Int) - 2).toNatClampNeg = iI (qY fx fy p (t - 2)) ∧ upd (gA v 29) t (iI (qY fx fy p t)) (iI (t : Int) - 1).toNatClampNeg = iI (qY fx fy p (t - 1)) := by
      intro h2
      have g2 : iI (t : Int) - 2 = iI ((t - 2 : Nat) : Int) := by
        rw [show iI (t : Int) - 2 = iI ((t : Int) - 2) from iI_sub _ 2]
        congr 1
        omega
      have g1 : iI (t : Int) - 1 = iI ((t - 1 : Nat) : Int) := by
        rw [show iI (t : Int) - 1 = iI ((t : Int) - 1) from iI_sub _ 1]
        congr 1
        omega
      rw [g2, g1, cl_n (show t - 2 ≤ 24 by omega) (by decide), cl_n (show t - 1 ≤ 24 by omega) (by decide), upd_n _ _ (show t - 2 ≠ t by omega), upd_n _ _ (show t - 1 ≠ t by omega), upd_n _ _ (show t - 2 ≠ t by omega), upd_n _ _ (show t - 1 ≠ t by omega), w28, w29]
      exact ⟨iI_in (by omega) (by omega) (by decide), iI_in (by omega) (by omega) (by decide), (hk (t - 2) (by omega)).1, (hk (t - 1) (by omega)).1, (hk (t - 2) (by omega)).2, (hk (t - 1) (by omega)).2⟩
    have a := q_b hu.2.2.1 p (i := t) (by omega)
    have b := q_b hu.2.2.1 p (i := t - 1) (by omega)
    have c := q_b hu.2.2.1 p (i := t - 2) (by omega)
    have sm : 2 ≤ t → bd fx fy p (t - 2) + ((((qX fx fy p t + qX fx fy p (t - 2) - 2 * qX fx fy p (t - 1)).natAbs : Nat) : Int) + (((qY fx fy p t + qY fx fy p (t - 2) - 2 * qY fx fy p (t - 1)).natAbs : Nat) : Int)) = bd fx fy p (t + 1 - 2) := by
      intro h2
      rw [show t + 1 - 2 = t - 2 + 1 by omega]
      show _ = bd fx fy p (t - 2) + (dX fx fy p (t - 2) + dY fx fy p (t - 2))
      unfold dX dY
      rw [show t - 2 + 2 = t by omega, show t - 2 + 1 = t - 1 by omega]
    by_cases z : 0 ≤ an p t + p
    · rw [if_pos z, ← as] at f12
      have ab' := an_b p (t + 1)
      have c2 : (0 : Int32) ≤ x12 := by
        rw [f12]
        exact (iI_le (a := 0) ⟨by decide, by decide⟩ ⟨by omega, by omega⟩).mpr ab'.1
      refine ⟨fun _ => ?_, fun y => absurd c2 y⟩
      rw [f12, lt1]
      refine ⟨fun y x16 e16 => ?_, fun y => ?_⟩
      · rw [e16, e1]
        exact nx _ (by rw [show t - 2 = 0 by omega, show t + 1 - 2 = 0 by omega])
      · obtain ⟨t1, t2, t3, t4, t5, t6⟩ := two (by omega)
        rw [upd_s, upd_s, t3, t4, t5, t6, dI, dI]
        refine ⟨hin, t1, t2, k_size ⟨by omega, by omega⟩ ⟨hin, t1, t2, k_size ⟨by omega, by omega⟩ (fun x22 e22 x24 e24 => ?_)⟩⟩
        rw [iI_add, iI_add] at e22
        rw [e22, e24, e1]
        exact nx _ (sm (by omega))
    · rw [if_neg z] at f12
      have c2 : ¬ (0 : Int32) ≤ x12 := by
        rw [f12]
        intro y
        have := (iI_le (a := 0) ⟨by decide, by decide⟩ ⟨by omega, by omega⟩).mp y
        omega
      refine ⟨fun y => absurd y c2, fun _ x26 e26 => ?_⟩
      have f26 : x26 = iI (an p (t + 1)) := by
        rw [e26, f12, show (240 : Int32) = iI 240 from rfl, iI_add, as]
        congr 1
        omega
      rw [f26, lt1]
      refine ⟨fun y x16 e16 => ?_, fun y => ?_⟩
      · rw [e16, e1]
        exact nx _ (by rw [show t - 2 = 0 by omega, show t + 1 - 2 = 0 by omega])
      · obtain ⟨t1, t2, t3, t4, t5, t6⟩ := two (by omega)
        rw [upd_s, upd_s, t3, t4, t5, t6, dI, dI]
        refine ⟨hin, t1, t2, k_size ⟨by omega, by omega⟩ ⟨hin, t1, t2, k_size ⟨by omega, by omega⟩ (fun x22 e22 x24 e24 => ?_)⟩⟩
        rw [iI_add, iI_add] at e22
        rw [e22, e24, e1]
        exact nx _ (sm (by omega))
theorem k_bentM {u : St} {fx fy : Nat → Int} {N : Nat} (hu : MFm u fx fy N) {p : Int} (hp : -60 ≤ p ∧ p ≤ 60) {post : Int32 → St → Prop} (h : ∀ u', FR [1, 2] [28, 29] u u' → post (iI (bd fx fy p (N - 2))) u') : wp_X11_bentOf u (iI p) post := by
  refine ⟨N + 1, ?_⟩
  have e : an p 0 = 0 := by
    unfold an
    rw [show ((0 : Nat) : Int) * p = 0 from Int.zero_mul p]
    rfl
  have w := lp_bm hp (post := post) (K := fun t40 v39 => post v39 t40) N 0 (by omega) u hu (fun _ z => absurd z (Nat.not_lt_zero _)) h
  rw [e] at w
  exact w
theorem o_bent (st mt : St) (j0 j1 : Option St) (a1 : Int32) (h : LR st j0 j1 mt) : wp_X10_bent st a1 (fun r => wp_X11_bent mt a1 (fun r' mt' => r = r' ∧ LR st j0 j1 mt')) := by
  refine t_x (lo := -60) (hi := 60) rfl rfl (br (fun c => ?_) (fun c => t_m (lo := -60) (hi := 60) rfl rfl (br' (fun _ => ⟨rfl, h⟩) (fun z => absurd z c))))
  obtain ⟨fx, fy, N, hx, hm⟩ := film_of h
  have pre : ∀ post : Int32 → St → Prop, wp_X11_bentOf mt a1 (fun r4 t5 => post r4 t5) → wp_X11_bent mt a1 post := fun post H => t_m (lo := -60) (hi := 60) rfl rfl (br' (fun z => absurd c z) (fun _ => H))
  have e : a1 = iI a1.toInt := iI_of _
  rw [e] at pre ⊢
  exact k_bend hx c (pre _ (k_bentM hm c (fun u' hu => ⟨rfl, h.fr (FR.rf _ _ _) (hu.up (by decide) (by decide))⟩)))
