/-! whether two lines meet, in class and reference -/
abbrev XMi (vx vy : Nat → Int) (i j : Nat) : Prop := XM (vx i) (vy i) (vx (i + 1)) (vy (i + 1)) (vx j) (vy j) (vx (j + 1)) (vy (j + 1))
theorem k_lines {t : St} {vx vy : Nat → Int} (ht : XV t vx vy) (hv : VB vx vy) {i j : Nat} (hi : i ≤ 19) (hj : j ≤ 19) {post : Int32 → Prop} (h1 : XMi vx vy i j → post 1) (h0 : ¬ XMi vx vy i j → post 0) : wp_X8_linesMeet t (iI (i : Int)) (iI (j : Int)) post := by
  refine k_spans0 ht hv hi hj (br' (fun c => h0 (fun z => c z.1)) (fun c => k_spans1 ht hv hi hj (br' (fun d => h0 (fun z => d z.2.1)) (fun d => k_across ht hv hi hj (br' (fun e => h0 (fun z => e z.2.2.1)) (fun e => k_across ht hv hj hi (br' (fun g => h0 (fun z => g z.2.2.2)) (fun g => h1 ⟨c, d, e, g⟩))))))))
theorem bI_cg {c d : Prop} [Decidable c] [Decidable d] (h : c ↔ d) : bI c = bI d := by
  by_cases q : d
  · rw [show bI d = 1 from if_pos q, show bI c = 1 from if_pos (h.mpr q)]
  · rw [show bI d = 0 from if_neg q, show bI c = 0 from if_neg (fun z => q (h.mp z))]
theorem k_btw {v a b : Int} (hv : -500000 ≤ v ∧ v ≤ 500000) (ha : -500000 ≤ a ∧ a ≤ 500000) (hb : -500000 ≤ b ∧ b ≤ 500000) {post : Int32 → Prop} (h : post (bI (BT v a b))) : wp_X11_isBetween (iI v) (iI a) (iI b) post := by
  have tv : (iI v).toInt = v := iI_t ⟨by omega, by omega⟩
  have ta : (iI a).toInt64.toInt = a := by rw [Int32.toInt_toInt64, iI_t ⟨by omega, by omega⟩]
  have tb : (iI b).toInt64.toInt = b := by rw [Int32.toInt_toInt64, iI_t ⟨by omega, by omega⟩]
  have l : iI b ≤ iI a ↔ b ≤ a := iI_le ⟨by omega, by omega⟩ ⟨by omega, by omega⟩
  unfold wp_X11_isBetween
  rw [l]
  refine ⟨fun q => t_m tb ta ⟨bI_b, ?_⟩, fun q => t_m ta tb ⟨bI_b, ?_⟩⟩
  · rw [bI_cg (c := b ≤ (iI v).toInt ∧ (iI v).toInt ≤ a) (d := BT v a b) (by rw [tv]; constructor <;> intro z <;> omega)]
    exact h
  · rw [bI_cg (c := a ≤ (iI v).toInt ∧ (iI v).toInt ≤ b) (d := BT v a b) (by rw [tv]; constructor <;> intro z <;> omega)]
    exact h
abbrev LI (vx vy : Nat → Int) (c a b : Nat) : Prop := BT (vx c) (vx a) (vx b) ∧ BT (vy c) (vy a) (vy b)
theorem k_li {u : St} {vx vy : Nat → Int} (hu : MV u vx vy) (hv : VB vx vy) {c a b : Nat} (hc : c ≤ 20) (ha : a ≤ 20) (hb : b ≤ 20) {post : Int32 → Prop} (h1 : LI vx vy c a b → post 1) (h0 : ¬ LI vx vy c a b → post 0) : wp_X11_lies u (iI (c : Int)) (iI (a : Int)) (iI (b : Int)) post := by
  have n0 : vp_in (iI (a : Int)) 21 := iI_in (by omega) (by omega) (by decide)
  have n1 : vp_in (iI (b : Int)) 21 := iI_in (by omega) (by omega) (by decide)
  have n2 : vp_in (iI (c : Int)) 21 := iI_in (by omega) (by omega) (by decide)
  have h1a := hv a ha
  have h1b := hv b hb
  have h1c := hv c hc
  unfold wp_X11_lies
  rw [cl_n (show a ≤ 61 by omega) (by decide), cl_n (show b ≤ 61 by omega) (by decide), cl_n (show c ≤ 61 by omega) (by decide), (hu a ha).1, (hu a ha).2, (hu b hb).1, (hu b hb).2, (hu c hc).1, (hu c hc).2]
  exact ⟨n2, n0, n1, k_btw h1c.1 h1a.1 h1b.1 (br' (fun q => h0 (fun z => q z.1)) (fun q => ⟨n2, n0, n1, k_btw h1c.2 h1a.2 h1b.2 (br' (fun w => h0 (fun z => w z.2)) (fun w => h1 ⟨q, w⟩))⟩))⟩
theorem k_liA {u : St} {vx vy : Nat → Int} (hu : MV u vx vy) (hv : VB vx vy) {c a b : Nat} (hc : c ≤ 20) (ha : a ≤ 20) (hb : b ≤ 20) {A B : Prop} (h0 : ¬ LI vx vy c a b → A) (h1 : LI vx vy c a b → B) : wp_X11_lies u (iI (c : Int)) (iI (a : Int)) (iI (b : Int)) (fun r => ((r = 0) → A) ∧ ((¬ r = 0) → B)) :=
  k_li hu hv hc ha hb (fun q => ⟨fun z => absurd z (by decide), fun _ => h1 q⟩) (fun q => ⟨fun _ => h0 q, fun z => absurd rfl z⟩)
theorem k_liB {u : St} {vx vy : Nat → Int} (hu : MV u vx vy) (hv : VB vx vy) {c a b : Nat} (hc : c ≤ 20) (ha : a ≤ 20) (hb : b ≤ 20) {A B : Prop} (h0 : ¬ LI vx vy c a b → A) (h1 : LI vx vy c a b → B) : wp_X11_lies u (iI (c : Int)) (iI (a : Int)) (iI (b : Int)) (fun r => ((¬ r = 0) → B) ∧ ((r = 0) → A)) :=
  k_li hu hv hc ha hb (fun q => ⟨fun _ => h1 q, fun z => absurd z (by decide)⟩) (fun q => ⟨fun z => absurd rfl z, fun _ => h0 q⟩)
theorem sgI (a b : Int) : (iI (sg a) = iI (sg b)) = (sg a = sg b) := by
  have ha := sg_c a
  have hb := sg_c b
  exact propext (iI_eq ⟨by omega, by omega⟩ ⟨by omega, by omega⟩)
theorem sgI0 (a : Int) : (iI (sg a) = 0) = (sg a = 0) := by
  have ha := sg_c a
  exact propext (iI_eq (b := 0) ⟨by omega, by omega⟩ ⟨by decide, by decide⟩)
set_option maxHeartbeats 4000000 in
theorem k_meet {u : St} {vx vy : Nat → Int} (hu : MV u vx vy) (hv : VB vx vy) {i j : Nat} (hi : i ≤ 19) (hj : j ≤ 19) {post : Int32 → Prop} (h1 : XMi vx vy i j → post 1) (h0 : ¬ XMi vx vy i j → post 0) : wp_X11_meet u (iI (i : Int)) (iI (j : Int)) post := by
  have g1 : MM (vx i) (vy i) (vx (i + 1)) (vy (i + 1)) (vx j) (vy j) (vx (j + 1)) (vy (j + 1)) → post 1 := fun z => h1 (meet_to z)
  have g0 : ¬ MM (vx i) (vy i) (vx (i + 1)) (vy (i + 1)) (vx j) (vy j) (vx (j + 1)) (vy (j + 1)) → post 0 := fun z => h0 (fun w => z (meet_of w))
  clear h0 h1
  have hi0 : i ≤ 20 := by omega
  have hi1 : i + 1 ≤ 20 := by omega
  have hj0 : j ≤ 20 := by omega
  have hj1 : j + 1 ≤ 20 := by omega
  intro x1 e1 x3 e3
  have e1' : x1 = iI ((i + 1 : Nat) : Int) := e1.trans (iI_add _ 1)
  have e3' : x3 = iI ((j + 1 : Nat) : Int) := e3.trans (iI_add _ 1)
  clear e1 e3
  subst e1' e3'
  refine k_sideM hu hv hi0 hi1 hj0 (k_sideM hu hv hi0 hi1 hj1 (k_sideM hu hv hj0 hj1 hi0 (k_sideM hu hv hj0 hj1 hi1 ?_)))
  have w1 : sd vx vy i (i + 1) j = cr3 (vx i) (vy i) (vx (i + 1)) (vy (i + 1)) (vx j) (vy j) := rfl
  have w2 : sd vx vy i (i + 1) (j + 1) = cr3 (vx i) (vy i) (vx (i + 1)) (vy (i + 1)) (vx (j + 1)) (vy (j + 1)) := rfl
  have w3 : sd vx vy j (j + 1) i = cr3 (vx j) (vy j) (vx (j + 1)) (vy (j + 1)) (vx i) (vy i) := rfl
  have w4 : sd vx vy j (j + 1) (i + 1) = cr3 (vx j) (vy j) (vx (j + 1)) (vy (j + 1)) (vx (i + 1)) (vy (i + 1)) := rfl
  rw [w1, w2, w3, w4]
  clear w1 w2 w3 w4
  simp only [sgI, sgI0]
  unfold MM at g0 g1
  generalize sg (cr3 (vx i) (vy i) (vx (i + 1)) (vy (i + 1)) (vx j) (vy j)) = p at g0 g1 ⊢
  generalize sg (cr3 (vx i) (vy i) (vx (i + 1)) (vy (i + 1)) (vx (j + 1)) (vy (j + 1))) = q at g0 g1 ⊢
  generalize sg (cr3 (vx j) (vy j) (vx (j + 1)) (vy (j + 1)) (vx i) (vy i)) = r at g0 g1 ⊢
  generalize sg (cr3 (vx j) (vy j) (vx (j + 1)) (vy (j + 1)) (vx (i + 1)) (vy (i + 1))) = s at g0 g1 ⊢
  have kA := fun (c a b : Nat) (hc : c ≤ 20) (ha : a ≤ 20) (hb : b ≤ 20) (A B : Prop) (x : ¬ LI vx vy c a b → A) (y : LI vx vy c a b → B) => k_liA hu hv hc ha hb x y
  have kB := fun (c a b : Nat) (hc : c ≤ 20) (ha : a ≤ 20) (hb : b ≤ 20) (A B : Prop) (x : ¬ LI vx vy c a b → A) (y : LI vx vy c a b → B) => k_liB hu hv hc ha hb x y
  repeat' first
    | exact g1 (.inl ⟨‹_›, ‹_›⟩)
    | exact g1 (.inr (.inl ⟨‹_›, ‹_›⟩))
    | exact g1 (.inr (.inr (.inl ⟨‹_›, ‹_›⟩)))
    | exact g1 (.inr (.inr (.inr (.inl ⟨‹_›, ‹_›⟩))))
    | exact g1 (.inr (.inr (.inr (.inr ⟨‹_›, ‹_›⟩))))
    | (refine g0 (fun z => ?_); rcases z with ⟨z1, z2⟩ | ⟨z1, z2⟩ | ⟨z1, z2⟩ | ⟨z1, z2⟩ | ⟨z1, z2⟩ <;> contradiction)
    | refine kA _ _ _ (by assumption) (by assumption) (by assumption) _ _ (fun _ => ?_) (fun _ => ?_)
    | refine kB _ _ _ (by assumption) (by assumption) (by assumption) _ _ (fun _ => ?_) (fun _ => ?_)
    | refine ⟨fun _ => ?_, fun _ => ?_⟩
