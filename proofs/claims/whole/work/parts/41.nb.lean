/-! neighbours -/
def bt (C : Nat → Nat → Bool) (q w : Nat) : Nat := (C q w).toNat
theorem bt_b (C : Nat → Nat → Bool) (q w : Nat) : bt C q w ≤ 1 := Bool.toNat_le _
def XC (C : Nat → Nat → Bool) (t : St) : Prop := ∀ q, q < 62 → gA t 10 q = nI (row (C q) 24)
def MC (C : Nat → Nat → Bool) (u : St) : Prop := ∀ q, q < 1488 → gA u 19 q = nI (bt C (q / 24) (q % 24))
theorem sh24 : ∀ w : Nat, w < 24 → ((iI (w : Int) &&& 31).toBitVec.smod 32).toNat = w := by decide +kernel
theorem k_bit {C : Nat → Nat → Bool} {t : St} (ht : XC C t) {q : Nat} (hq : q < 62) {z : Int} (hz : B31 z) {w : Nat} (hw : z % 24 = (w : Int)) {post : Int32 → Prop} (h : post (iI (bt C q w : Int))) : wp_X1_bit t (iI (q : Int)) (iI z) post := by
  refine ⟨iI_in (by omega) (by omega) (by decide), k_fm (n := 24) hz (Or.inl rfl) ?_⟩
  have hw2 : w < 24 := by omega
  have hl := row_lt (C q) 24
  rw [hw, cl_n (show q ≤ 62 by omega) (by decide), ht q hq, pk_shrN (by omega) _ w (sh24 w hw2), pk_andN (Nat.lt_of_le_of_lt (Nat.div_le_self _ _) (by omega)) 1 (by decide), show 2 ^ 1 = 2 from rfl, row_bit (C q) 24 w hw2, nI_iI]
  exact h
def t3 (C : Nat → Nat → Bool) (q w : Nat) : Int := ((bt C q ((w + 23) % 24) : Int) + (bt C q w : Int)) + (bt C q ((w + 1) % 24) : Int)
def nb (C : Nat → Nat → Bool) (p w : Nat) : Int := -(bt C p w : Int) + t3 C (p - 1) w + t3 C p w + t3 C (p + 1) w
theorem t3_b (C : Nat → Nat → Bool) (q w : Nat) : 0 ≤ t3 C q w ∧ t3 C q w ≤ 3 := by
  have a := bt_b C q ((w + 23) % 24)
  have b := bt_b C q w
  have c := bt_b C q ((w + 1) % 24)
  unfold t3
  omega
theorem nb_b (C : Nat → Nat → Bool) (p w : Nat) : 0 ≤ nb C p w ∧ nb C p w ≤ 9 := by
  have a := t3_b C (p - 1) w
  have b := t3_b C (p + 1) w
  have c := bt_b C p ((w + 23) % 24)
  have d := bt_b C p w
  have e := bt_b C p ((w + 1) % 24)
  have hq : t3 C p w = ((bt C p ((w + 23) % 24) : Int) + (bt C p w : Int)) + (bt C p ((w + 1) % 24) : Int) := rfl
  unfold nb
  omega
theorem nbX_s {C : Nat → Nat → Bool} {t : St} (ht : XC C t) {p w q n : Nat} {v : Int} (hp : p ≤ 60) (hw : w < 24) (hq : q ≤ p + 1) {post K : Int32 → Prop} (h : wp_X1_neighbours_L13 post K t (iI (p : Int)) (iI (w : Int)) n (iI (v + t3 C q w)) (iI ((q + 1 : Nat) : Int))) : wp_X1_neighbours_L13 post K t (iI (p : Int)) (iI (w : Int)) (n + 1) (iI v) (iI (q : Int)) := by
  have e1 : iI (q : Int) + 1 = iI ((q + 1 : Nat) : Int) := iI_add _ 1
  have ep : iI (p : Int) + 1 = iI ((p + 1 : Nat) : Int) := iI_add _ 1
  have c1 : ¬ iI (p : Int) + 1 < iI (q : Int) := by
    rw [ep]
    intro z
    have := (iI_lt ⟨by omega, by omega⟩ ⟨by omega, by omega⟩).mp z
    omega
  refine ⟨fun z => absurd z c1, fun _ => ?_⟩
  rw [show iI (w : Int) - 1 = iI ((w : Int) - 1) from iI_sub _ 1, show iI (w : Int) + 1 = iI ((w : Int) + 1) from iI_add _ 1]
  refine k_bit ht (by omega) (w := (w + 23) % 24) ⟨by omega, by omega⟩ (by omega) (k_bit ht (by omega) (w := w) ⟨by omega, by omega⟩ (by omega) (k_bit ht (by omega) (w := (w + 1) % 24) ⟨by omega, by omega⟩ (by omega) (fun x17 e17 x19 e19 => ?_)))
  rw [e19, e1, e17, iI_add, iI_add, iI_add]
  exact h
theorem k_nbX {C : Nat → Nat → Bool} {t : St} (ht : XC C t) {p w : Nat} (hp : 1 ≤ p ∧ p ≤ 60) (hw : w < 24) {post : Int32 → Prop} (h : post (iI (nb C p w))) : wp_X1_neighbours t (iI (p : Int)) (iI (w : Int)) post := by
  refine k_bit ht (by omega) (w := w) ⟨by omega, by omega⟩ (by omega) (fun x3 e3 x5 e5 => ⟨4, ?_⟩)
  rw [e3, e5, iI_neg, show iI (p : Int) - 1 = iI ((p : Int) - 1) from iI_sub _ 1, show (p : Int) - 1 = ((p - 1 : Nat) : Int) by omega]
  refine nbX_s ht hp.2 hw (by omega) (nbX_s ht hp.2 hw (by omega) (nbX_s ht hp.2 hw (by omega) ⟨fun _ => ?_, fun z => absurd ?_ z⟩))
  · rw [show p - 1 + 1 = p by omega]
    exact h
  · rw [show iI (p : Int) + 1 = iI ((p : Int) + 1) from iI_add _ 1]
    exact (iI_lt ⟨by omega, by omega⟩ ⟨by omega, by omega⟩).mpr (by omega)
/-- what one place adds -/
def ad (C : Nat → Nat → Bool) (p w q d : Nat) : Int := if q = p ∧ d = 24 then 0 else (bt C q ((w + d) % 24) : Int)
theorem nbM_i {C : Nat → Nat → Bool} {u : St} (hu : MC C u) {p w q d n : Nat} {v : Int} (hp : p ≤ 60) (hw : w < 24) (hq : q < 62) (hd : 23 ≤ d ∧ d ≤ 25) {post K : Int32 → Prop} (h : wp_X11_neighbours_L19 post K u (iI (p : Int)) (iI (w : Int)) (iI (q : Int)) n (iI (v + ad C p w q d)) (iI ((d + 1 : Nat) : Int))) : wp_X11_neighbours_L19 post K u (iI (p : Int)) (iI (w : Int)) (iI (q : Int)) (n + 1) (iI v) (iI (d : Int)) := by
  have e1 : iI (d : Int) + 1 = iI ((d + 1 : Nat) : Int) := iI_add _ 1
  have c1 : ¬ (25 : Int32) < iI (d : Int) := by
    intro z
    have := (iI_lt (a := 25) ⟨by decide, by decide⟩ ⟨by omega, by omega⟩).mp z
    omega
  have ei : (24 * iI (q : Int)) + ((iI (w : Int) + iI (d : Int)) - (iI (w : Int) + iI (d : Int)) / 24 * 24) = iI ((24 * q + (w + d) % 24 : Nat) : Int) := by
    rw [iI_add, show (24 : Int32) = iI 24 from rfl, rem_i (z := (w : Int) + (d : Int)) (by omega) ⟨by omega, by omega⟩ (by decide) ⟨by decide, by decide⟩, show ((w : Int) + (d : Int)) % 24 = (((w + d) % 24 : Nat) : Int) by omega]
    exact ix24 hq (by omega)
  have hin : vp_in (iI ((24 * q + (w + d) % 24 : Nat) : Int)) 1488 := iI_in (by omega) (by omega) (by decide)
  have hv : gA u 19 (iI ((24 * q + (w + d) % 24 : Nat) : Int)).toNatClampNeg = iI (bt C q ((w + d) % 24) : Int) := by
    rw [cl_n (n := 1488) (by omega) (by decide), hu _ (by omega), show (24 * q + (w + d) % 24) / 24 = q by omega, show (24 * q + (w + d) % 24) % 24 = (w + d) % 24 by omega, nI_iI]
  have hb := bt_b C q ((w + d) % 24)
  have ev : iI (bt C q ((w + d) % 24) : Int) = 0 ↔ bt C q ((w + d) % 24) = 0 := by
    have := iI_eq (a := (bt C q ((w + d) % 24) : Int)) (b := 0) ⟨by omega, by omega⟩ ⟨by decide, by decide⟩
    constructor
    · intro z
      have := this.mp z
      omega
    · intro z
      exact this.mpr (by omega)
  have eq : iI (q : Int) = iI (p : Int) ↔ q = p := by
    have := iI_eq (a := (q : Int)) (b := (p : Int)) ⟨by omega, by omega⟩ ⟨by omega, by omega⟩
    constructor
    · intro z
      have := this.mp z
      omega
    · intro z
      exact this.mpr (by omega)
  have ed : iI (d : Int) = 24 ↔ d = 24 := by
    have := iI_eq (a := (d : Int)) (b := 24) ⟨by omega, by omega⟩ ⟨by decide, by decide⟩
    constructor
    · intro z
      have := this.mp z
      omega
    · intro z
      exact this.mpr (by omega)
  refine ⟨fun z => absurd z c1, fun _ => ?_⟩
  rw [ei, hv]
  have go : ∀ x : Int, x = ad C p w q d → ∀ x14 : Int32, x14 = iI v + iI x → ∀ x16 : Int32, x16 = iI (d : Int) + 1 → wp_X11_neighbours_L19 post K u (iI (p : Int)) (iI (w : Int)) (iI (q : Int)) n x14 x16 := by
    intro x ex x14 f1 x16 f2
    rw [f1, f2, e1, iI_add, ex]
    exact h
  have two : ¬ (q = p ∧ d = 24) → (bt C q ((w + d) % 24) = 0 → (0 : Int) = ad C p w q d) ∧ (¬ bt C q ((w + d) % 24) = 0 → (1 : Int) = ad C p w q d) := by
    intro z
    unfold ad
    rw [if_neg z]
    exact ⟨fun a => by omega, fun a => by omega⟩
  refine ⟨fun z => ?_, fun z => ⟨fun z2 => ?_, fun z2 => ?_⟩⟩
  · have tw := two (fun y => z (eq.mpr y.1))
    exact ⟨hin, fun a => go 0 (tw.1 (ev.mp a)), fun a => go 1 (tw.2 (fun b => a (ev.mpr b)))⟩
  · have tw := two (fun y => z2 (ed.mpr y.2))
    exact ⟨hin, fun a => go 0 (tw.1 (ev.mp a)), fun a => go 1 (tw.2 (fun b => a (ev.mpr b)))⟩
  · refine go 0 ?_
    unfold ad
    rw [if_pos ⟨eq.mp z, ed.mp z2⟩]
theorem nbM_s {C : Nat → Nat → Bool} {u : St} (hu : MC C u) {p w q n : Nat} {v : Int} (hp : p ≤ 60) (hw : w < 24) (hq : q ≤ p + 1) {post K : Int32 → Prop} (h : wp_X11_neighbours_L7 post K u (iI (p : Int)) (iI (w : Int)) n (iI (v + ad C p w q 23 + ad C p w q 24 + ad C p w q 25)) (iI ((q + 1 : Nat) : Int))) : wp_X11_neighbours_L7 post K u (iI (p : Int)) (iI (w : Int)) (n + 1) (iI v) (iI (q : Int)) := by
  have e1 : iI (q : Int) + 1 = iI ((q + 1 : Nat) : Int) := iI_add _ 1
  have ep : iI (p : Int) + 1 = iI ((p + 1 : Nat) : Int) := iI_add _ 1
  have c1 : ¬ iI (p : Int) + 1 < iI (q : Int) := by
    rw [ep]
    intro z
    have := (iI_lt ⟨by omega, by omega⟩ ⟨by omega, by omega⟩).mp z
    omega
  refine ⟨fun z => absurd z c1, fun _ => ⟨4, nbM_i hu hp hw (d := 23) (by omega) (by decide) (nbM_i hu hp hw (by omega) (by decide) (nbM_i hu hp hw (by omega) (by decide) ⟨fun _ x40 e40 => ?_, fun z => absurd (by decide) z⟩))⟩⟩
  rw [e40, e1]
  exact h
theorem ad_s {C : Nat → Nat → Bool} {p w q : Nat} (hw : w < 24) : ad C p w q 23 + ad C p w q 24 + ad C p w q 25 = if q = p then t3 C q w - (bt C q w : Int) else t3 C q w := by
  unfold ad t3
  rw [if_neg (by omega), if_neg (show ¬ (q = p ∧ 25 = 24) by omega), show (w + 24) % 24 = w by omega, show (w + 25) % 24 = (w + 1) % 24 by omega]
  by_cases z : q = p
  · rw [if_pos ⟨z, rfl⟩, if_pos z]
    omega
  · rw [if_neg (fun y => z y.1), if_neg z]
theorem k_nbM {C : Nat → Nat → Bool} {u : St} (hu : MC C u) {p w : Nat} (hp : 1 ≤ p ∧ p ≤ 60) (hw : w < 24) {post : Int32 → Prop} (h : post (iI (nb C p w))) : wp_X11_neighbours u (iI (p : Int)) (iI (w : Int)) post := by
  refine fun x1 e1 => ⟨4, ?_⟩
  rw [e1, show iI (p : Int) - 1 = iI ((p : Int) - 1) from iI_sub _ 1, show (p : Int) - 1 = ((p - 1 : Nat) : Int) by omega, show (0 : Int32) = iI 0 from rfl]
  refine nbM_s hu hp.2 hw (by omega) (nbM_s hu hp.2 hw (by omega) (nbM_s hu hp.2 hw (by omega) ⟨fun _ => ?_, fun z => absurd ?_ z⟩))
  · have a := ad_s (C := C) (p := p) (q := p - 1) hw
    have b := ad_s (C := C) (p := p) (q := p) hw
    have c := ad_s (C := C) (p := p) (q := p + 1) hw
    rw [if_neg (by omega)] at a
    rw [if_pos rfl] at b
    rw [if_neg (by omega)] at c
    rw [show p - 1 + 1 = p by omega]
    unfold nb at h
    rw [show 0 + ad C p w (p - 1) 23 + ad C p w (p - 1) 24 + ad C p w (p - 1) 25 + ad C p w p 23 + ad C p w p 24 + ad C p w p 25 + ad C p w (p + 1) 23 + ad C p w (p + 1) 24 + ad C p w (p + 1) 25 = -(bt C p w : Int) + t3 C (p - 1) w + t3 C p w + t3 C (p + 1) w by omega]
    exact h
  · rw [show iI (p : Int) + 1 = iI ((p : Int) + 1) from iI_add _ 1]
    exact (iI_lt ⟨by omega, by omega⟩ ⟨by omega, by omega⟩).mpr (by omega)
