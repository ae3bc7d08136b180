theorem dig1 (s : Int32) : s - 48 = iI (s.toInt - 48) := by rw [← iI_sub, ← iI_of]; rfl
theorem nb_stop {post : Int32 → Prop} {K : Int32 → Prop} {t : St} {len p : Nat} {v : Int32} (hlen : len ≤ 40) (hx : gI t 0 = iI len) (hp : p ≤ len) (hd : p < len → ¬ (48 ≤ (gA t 0 p).toInt ∧ (gA t 0 p).toInt ≤ 57)) (h : K v) : wp_X6_numberBehind_L6 post K t 1 v (iI p) := by
  rw [wp_X6_numberBehind_L6]
  refine ⟨fun _ => h, fun z => ?_⟩
  have hlt : p < len := by
    rcases Nat.lt_or_ge p len with q | q
    · exact q
    · exact absurd (by rw [hx, iI_le ⟨by omega, by omega⟩ ⟨by omega, by omega⟩]; omega) z
  have hcl : (iI (p : Int)).toNatClampNeg = p := by rw [iI_cl (by omega) (by omega)]; omega
  refine ⟨iI_in (by omega) (by omega) (by decide), k_isDigit ?_⟩
  rw [hcl]
  exact br' (fun _ => h) (fun q => absurd q (hd hlt))
theorem iI_s (i : Nat) : iI (i : Int) + 1 = iI ((i + 1 : Nat) : Int) := by
  have := iI_add (i : Int) 1
  rw [show ((i + 1 : Nat) : Int) = (i : Int) + 1 by omega]
  exact this
theorem nb_step {post : Int32 → Prop} {K : Int32 → Prop} {t : St} {len p m : Nat} {v : Int32} (hlen : len ≤ 40) (hx : gI t 0 = iI len) (hp : p < len) (hd : 48 ≤ (gA t 0 p).toInt ∧ (gA t 0 p).toInt ≤ 57) (h : wp_X6_numberBehind_L6 post K t m (v * 10 + gA t 0 p - 48) (iI ((p + 1 : Nat) : Int))) : wp_X6_numberBehind_L6 post K t (m + 1) v (iI p) := by
  rw [wp_X6_numberBehind_L6]
  have hcl : (iI (p : Int)).toNatClampNeg = p := by rw [iI_cl (by omega) (by omega)]; omega
  have hin : vp_in (iI p) 40 := iI_in (by omega) (by omega) (by decide)
  refine ⟨fun z => absurd z (by rw [hx, iI_le ⟨by omega, by omega⟩ ⟨by omega, by omega⟩]; omega), fun _ => ⟨hin, k_isDigit ?_⟩⟩
  rw [hcl]
  refine br' (fun q => absurd hd q) (fun _ => ⟨hin, fun x e y f => ?_⟩)
  rw [e, f, iI_s]; exact h
/-- X's number behind a sign: one digit, or two -/
theorem nb_1 {t : St} {len i : Nat} (hlen : len ≤ 40) (hx : gI t 0 = iI len) (hp : i + 1 < len) (hd : 48 ≤ (gA t 0 (i + 1)).toInt ∧ (gA t 0 (i + 1)).toInt ≤ 57) (he : i + 2 < len → ¬ (48 ≤ (gA t 0 (i + 2)).toInt ∧ (gA t 0 (i + 2)).toInt ≤ 57)) {post : Int32 → Prop} (h : post (iI ((gA t 0 (i + 1)).toInt - 48))) : wp_X6_numberBehind t (iI i) post := by
  intro x e
  rw [e, iI_s]
  refine ⟨2, nb_step hlen hx hp hd (nb_stop hlen hx (by omega) he ?_)⟩
  show post (0 * 10 + gA t 0 (i + 1) - 48)
  rw [Int32.zero_mul, Int32.zero_add, dig1]; exact h
theorem nb_2 {t : St} {len i : Nat} (hlen : len ≤ 40) (hx : gI t 0 = iI len) (hp : i + 2 < len) (hd : 48 ≤ (gA t 0 (i + 1)).toInt ∧ (gA t 0 (i + 1)).toInt ≤ 57) (hd2 : 48 ≤ (gA t 0 (i + 2)).toInt ∧ (gA t 0 (i + 2)).toInt ≤ 57) (he : i + 3 < len → ¬ (48 ≤ (gA t 0 (i + 3)).toInt ∧ (gA t 0 (i + 3)).toInt ≤ 57)) {post : Int32 → Prop} (h : post (iI (10 * ((gA t 0 (i + 1)).toInt - 48) + ((gA t 0 (i + 2)).toInt - 48)))) : wp_X6_numberBehind t (iI i) post := by
  intro x e
  rw [e, iI_s]
  refine ⟨3, nb_step hlen hx (by omega) hd (nb_step hlen hx hp hd2 (nb_stop hlen hx (by omega) he ?_))⟩
  show post ((0 * 10 + gA t 0 (i + 1) - 48) * 10 + gA t 0 (i + 2) - 48)
  rw [Int32.zero_mul, Int32.zero_add, dig1, dig1]
  have e2 : (iI ((gA t 0 (i + 1)).toInt - 48) * 10 + gA t 0 (i + 2)) - 48 = iI (10 * ((gA t 0 (i + 1)).toInt - 48) + ((gA t 0 (i + 2)).toInt - 48)) := by
    rw [show (10 : Int32) = iI 10 from rfl, show (48 : Int32) = iI 48 from rfl, iI_mul, iI_of (gA t 0 (i + 2)), iI_add, iI_sub, iI_t (B31_of _)]
    congr 1
    omega
  rw [← dig1 (iI ((gA t 0 (i + 1)).toInt - 48) * 10 + gA t 0 (i + 2)), e2]
  exact h
def PL (st mt t u : St) (i : Nat) : Prop := FR [2, 3] [2, 3] st t ∧ FR [10, 11] [8, 9] mt u ∧ gI t 2 = gI u 10 ∧ gI t 3 = gI u 11 ∧ (∃ c : Nat, gI t 2 = iI c ∧ 2 * c ≤ i) ∧ ∀ k, k < 20 → (gA t 2 k = gA u 8 k ∧ gA t 3 k = gA u 9 k) ∧ rI 0 1000 (gA t 2 k) ∧ rI (-99) 99 (gA t 3 k)
theorem nx0_nd {w c : Int32} (hw : w = 0 ∨ w = 3) (h : ¬ nx w c = (-1)) (hd : ¬ (48 ≤ c.toInt ∧ c.toInt ≤ 57)) : (c = 46 ∧ nx w c = 1) ∨ ((c = 43 ∨ c = 45) ∧ ¬ c = 46 ∧ nx w c = 2) := by
  have e : nx w c = if c = 46 then 1 else if c = 43 ∨ c = 45 then 2 else -1 := by
    rcases hw with rfl | rfl
    · exact nxo (by decide) (by decide) (fun z => absurd z.1 (by decide))
    · exact nxo (by decide) (by decide) (fun z => hd z.2)
  by_cases h1 : c = 46
  · rw [if_pos h1] at e; exact Or.inl ⟨h1, e⟩
  · rw [if_neg h1] at e
    by_cases h2 : c = 43 ∨ c = 45
    · rw [if_pos h2] at e; exact Or.inr ⟨h2, h1, e⟩
    · rw [if_neg h2] at e; exact absurd e h
theorem nx0_d {c : Int32} (h : ¬ nx 0 c = (-1)) : ¬ (48 ≤ c.toInt ∧ c.toInt ≤ 57) := by
  intro hd
  have e : nx 0 c = if c = 46 then 1 else if c = 43 ∨ c = 45 then 2 else -1 := nxo (by decide) (by decide) (fun z => absurd z.1 (by decide))
  have h1 : ¬ c = 46 := fun z => by rw [z] at hd; exact absurd hd (by decide)
  have h2 : ¬ (c = 43 ∨ c = 45) := fun z => by
    rcases z with z | z <;> rw [z] at hd <;> exact absurd hd (by decide)
  rw [if_neg h1, if_neg h2] at e
  exact h e
/-- a digit of X's loop -/
theorem xr_d {post : St → Prop} {K : St → Prop} {t : St} {len i m : Nat} {v : Int32} (hlen : len ≤ 40) (hx : gI t 0 = iI len) (hp : i < len) (hd : 48 ≤ (gA t 0 i).toInt ∧ (gA t 0 i).toInt ≤ 57) (h : wp_X6_read_L14 post K m t v (iI ((i + 1 : Nat) : Int))) : wp_X6_read_L14 post K (m + 1) t v (iI i) := by
  rw [wp_X6_read_L14]
  have hcl : (iI (i : Int)).toNatClampNeg = i := by rw [iI_cl (by omega) (by omega)]; omega
  refine ⟨fun z => absurd z (by rw [hx, iI_le ⟨by omega, by omega⟩ ⟨by omega, by omega⟩]; omega), fun _ => ⟨iI_in (by omega) (by omega) (by decide), fun x e => k_isDigit ?_⟩⟩
  rw [e, hcl]
  exact br' (fun q => absurd hd q) (fun _ y f => by rw [f, iI_s]; exact h)
/-- X's loop at a dot -/
theorem xr_dot {post : St → Prop} {K : St → Prop} {t : St} {len i m : Nat} {v nb : Int32} (hlen : len ≤ 40) (hx : gI t 0 = iI len) (hp : i < len) (hc : gA t 0 i = 46) (hn : ∀ p : Int32 → Prop, p nb → wp_X6_numberBehind (sI t 3 (gI t 3 + 1)) (iI i) p) (h : wp_X6_read_L14 post K m (sI t 3 (gI t 3 + 1)) (v + nb) (iI ((i + 1 : Nat) : Int))) : wp_X6_read_L14 post K (m + 1) t v (iI i) := by
  rw [wp_X6_read_L14]
  have hcl : (iI (i : Int)).toNatClampNeg = i := by rw [iI_cl (by omega) (by omega)]; omega
  refine ⟨fun z => absurd z (by rw [hx, iI_le ⟨by omega, by omega⟩ ⟨by omega, by omega⟩]; omega), fun _ => ⟨iI_in (by omega) (by omega) (by decide), fun x e => ?_⟩⟩
  rw [hcl, hc] at e
  subst e
  refine k_isDigit (br' (fun _ y f => ?_) (fun q => absurd q (by decide)))
  subst f
  exact hn _ ⟨fun z => absurd rfl z, fun _ y f z g => by rw [f, g, iI_s]; exact h⟩
abbrev X2 (t : St) (v w : Int32) : St := sI (sA (sA (sI t 3 (gI t 3 + 1)) 2 (upd (gA t 2) (gI t 2).toNatClampNeg v)) 3 (upd (gA t 3) (gI t 2).toNatClampNeg w)) 2 (gI t 2 + 1)
abbrev U2 (u : St) (v w : Int32) : St := sI (sA (sA (sI u 11 (gI u 11 + 1)) 8 (upd (gA u 8) (gI u 10).toNatClampNeg v)) 9 (upd (gA u 9) (gI u 10).toNatClampNeg w)) 10 (gI u 10 + 1)
/-- X's loop at a sign -/
theorem xr_sg {post : St → Prop} {K : St → Prop} {t : St} {len i m : Nat} {v nb c : Int32} (hlen : len ≤ 40) (hx : gI t 0 = iI len) (hp : i < len) (hc : gA t 0 i = c) (h43 : c = 43 ∨ c = 45) (hcn : ∃ q : Nat, gI t 2 = iI q ∧ q < 20) (hn : ∀ p : Int32 → Prop, p nb → wp_X6_numberBehind (sI t 3 (gI t 3 + 1)) (iI i) p) (h : wp_X6_read_L14 post K m (X2 t v (if c = 43 then nb else -nb)) v (iI ((i + 1 : Nat) : Int))) : wp_X6_read_L14 post K (m + 1) t v (iI i) := by
  rw [wp_X6_read_L14]
  obtain ⟨q, hq, hq2⟩ := hcn
  have hcl : (iI (i : Int)).toNatClampNeg = i := by rw [iI_cl (by omega) (by omega)]; omega
  have hin : vp_in (gI t 2) 20 := by rw [hq]; exact iI_in (by omega) (by omega) (by decide)
  have hl2 : ¬ (20 : Int32) ≤ gI t 2 := by
    rw [hq, show (20 : Int32) = iI 20 from rfl, iI_le ⟨by decide, by decide⟩ ⟨by omega, by omega⟩]; omega
  refine ⟨fun z => absurd z (by rw [hx, iI_le ⟨by omega, by omega⟩ ⟨by omega, by omega⟩]; omega), fun _ => ⟨iI_in (by omega) (by omega) (by decide), fun x e => ?_⟩⟩
  rw [hcl, hc] at e
  subst e
  have hnd : ¬ (48 ≤ x.toInt ∧ x.toInt ≤ 57) := by
    rcases h43 with z | z <;> rw [z] <;> decide
  have h46 : ¬ x = 46 := by
    rcases h43 with z | z <;> rw [z] <;> decide
  refine k_isDigit (br' (fun _ y f => ?_) (fun q => absurd q hnd))
  subst f
  refine hn _ ⟨fun _ => ⟨fun z => absurd z hl2, fun _ => ⟨hin, fun z y f => ⟨hin, fun y2 f2 y3 f3 => ?_⟩, fun z => ⟨hin, fun y2 f2 y3 f3 => ?_⟩⟩⟩, fun z => absurd z h46⟩
  · rw [if_neg z] at h
    rw [f, f2, f3, iI_s]; exact h
  · rw [if_pos z] at h
    rw [f2, f3, iI_s]; exact h
/-- the reference's loop at a dot -/
theorem mr_dot {post : Int32 → St → Prop} {K : St → Prop} {u : St} {len i m : Nat} {v s1 : Int32} (hlen : len ≤ 40) (hx : gI u 7 = iI len) (hp : i + 1 < len) (hc : gA u 6 i = 46) (h1 : gA u 6 (i + 1) = s1) (h : wp_X11_push_L24 post K m (sI u 11 (gI u 11 + 1)) (v + iI (s1.toInt - 48)) (iI ((i + 2 : Nat) : Int))) : wp_X11_push_L24 post K (m + 1) u v (iI i) := by
  rw [wp_X11_push_L24]
  have hcl : (iI (i : Int)).toNatClampNeg = i := by rw [iI_cl (by omega) (by omega)]; omega
  have hcl1 : (iI ((i + 1 : Nat) : Int)).toNatClampNeg = i + 1 := by rw [iI_cl (by omega) (by omega)]; omega
  refine ⟨fun z => absurd z (by rw [hx, iI_le ⟨by omega, by omega⟩ ⟨by omega, by omega⟩]; omega), fun _ => ⟨iI_in (by omega) (by omega) (by decide), fun x e => ?_⟩⟩
  rw [hcl, hc] at e
  subst e
  rw [iI_s, hcl1, h1]
  refine ⟨iI_in (by omega) (by omega) (by decide), fun x10 e10 x12 e12 x14 e14 => ⟨fun z => absurd rfl z, fun _ y f => ?_⟩⟩
  have e2 : iI (i : Int) + 2 = iI ((i + 2 : Nat) : Int) := by
    rw [show ((i + 2 : Nat) : Int) = (i : Int) + 2 by omega]; exact iI_add _ 2
  rw [f, e10, e12, e14, dig1, e2]; exact h
theorem mr_tail {post : Int32 → St → Prop} {K : St → Prop} {u : St} {m : Nat} {v c w nx x14 : Int32} (hin : vp_in (gI u 10) 20) (e14 : x14 = gI u 11 + 1) (h : wp_X11_push_L24 post K m (U2 u v (if c = 43 then w else -w)) v nx) : vp_in (gI u 10) 20 ∧ (((¬ c = 43) → (∀ x19 : Int32, x19 = (-w) → (vp_in (gI u 10) 20 ∧ (∀ x21 : Int32, x21 = (gI u 10 + 1) → (wp_X11_push_L24 post K m (sI (sA (sA (sI u 11 x14) 8 (upd (gA u 8) (gI u 10).toNatClampNeg v)) 9 (upd (gA u 9) (gI u 10).toNatClampNeg x19)) 10 x21) v nx))))) ∧ ((c = 43) → (vp_in (gI u 10) 20 ∧ (∀ x23 : Int32, x23 = (gI u 10 + 1) → (wp_X11_push_L24 post K m (sI (sA (sA (sI u 11 x14) 8 (upd (gA u 8) (gI u 10).toNatClampNeg v)) 9 (upd (gA u 9) (gI u 10).toNatClampNeg w)) 10 x23) v nx))))) := by
  subst e14
  refine ⟨hin, fun z y f => ⟨hin, fun y2 f2 => ?_⟩, fun z => ⟨hin, fun y2 f2 => ?_⟩⟩
  · rw [if_neg z] at h
    rw [f, f2]; exact h
  · rw [if_pos z] at h
    rw [f2]; exact h
/-- the reference's loop at a sign -/
theorem mr_sg {post : Int32 → St → Prop} {K : St → Prop} {u : St} {len i m : Nat} {v c : Int32} (hlen : len ≤ 40) (hx : gI u 7 = iI len) (hp : i + 1 < len) (hc : gA u 6 i = c) (h46 : ¬ c = 46) (hcn : ∃ q : Nat, gI u 10 = iI q ∧ q < 20)
    (h1 : (i + 2 < len → ¬ (48 ≤ (gA u 6 (i + 2)).toInt ∧ (gA u 6 (i + 2)).toInt ≤ 57)) → wp_X11_push_L24 post K m (U2 u v (if c = 43 then iI ((gA u 6 (i + 1)).toInt - 48) else -iI ((gA u 6 (i + 1)).toInt - 48))) v (iI ((i + 2 : Nat) : Int)))
    (h2 : i + 2 < len → (48 ≤ (gA u 6 (i + 2)).toInt ∧ (gA u 6 (i + 2)).toInt ≤ 57) → wp_X11_push_L24 post K m (U2 u v (if c = 43 then iI (10 * ((gA u 6 (i + 1)).toInt - 48) + ((gA u 6 (i + 2)).toInt - 48)) else -iI (10 * ((gA u 6 (i + 1)).toInt - 48) + ((gA u 6 (i + 2)).toInt - 48)))) v (iI ((i + 3 : Nat) : Int))) : wp_X11_push_L24 post K (m + 1) u v (iI i) := by
  rw [wp_X11_push_L24]
  obtain ⟨q, hq, hq2⟩ := hcn
  have hcl : (iI (i : Int)).toNatClampNeg = i := by rw [iI_cl (by omega) (by omega)]; omega
  have hcl1 : (iI ((i + 1 : Nat) : Int)).toNatClampNeg = i + 1 := by rw [iI_cl (by omega) (by omega)]; omega
  have hcl2 : (iI ((i + 2 : Nat) : Int)).toNatClampNeg = i + 2 := by rw [iI_cl (by omega) (by omega)]; omega
  have hin : vp_in (gI u 10) 20 := by rw [hq]; exact iI_in (by omega) (by omega) (by decide)
  refine ⟨fun z => absurd z (by rw [hx, iI_le ⟨by omega, by omega⟩ ⟨by omega, by omega⟩]; omega), fun _ => ⟨iI_in (by omega) (by omega) (by decide), fun x e => ?_⟩⟩
  rw [hcl, hc] at e
  subst e
  have e2 : iI (i : Int) + 2 = iI ((i + 2 : Nat) : Int) := by
    rw [show ((i + 2 : Nat) : Int) = (i : Int) + 2 by omega]; exact iI_add _ 2
  rw [iI_s, hcl1]
  refine ⟨iI_in (by omega) (by omega) (by decide), fun x10 e10 x12 e12 x14 e14 => ⟨fun _ => ⟨fun z => ?_, fun z => ?_⟩, fun z => absurd z h46⟩⟩
  · rw [e12, e2, hx, iI_le ⟨by omega, by omega⟩ ⟨by omega, by omega⟩] at z
    rw [e10, dig1, e12, e2]
    exact mr_tail hin e14 (h1 (fun q => by omega))
  · rw [e12, e2, hx, iI_le ⟨by omega, by omega⟩ ⟨by omega, by omega⟩] at z
    rw [e10, dig1, e12, e2]
    have hin2 : vp_in (iI ((i + 2 : Nat) : Int)) 40 := iI_in (by omega) (by omega) (by decide)
    refine ⟨hin2, k_mDigit ?_⟩
    rw [hcl2]
    refine br' (fun d => mr_tail hin e14 (h1 (fun _ => d))) (fun d => ⟨hin2, fun y f y2 f2 => ?_⟩)
    have e3 : (10 * iI ((gA u 6 (i + 1)).toInt - 48) + gA u 6 (i + 2)) - 48 = iI (10 * ((gA u 6 (i + 1)).toInt - 48) + ((gA u 6 (i + 2)).toInt - 48)) := by
      rw [show (10 : Int32) = iI 10 from rfl, show (48 : Int32) = iI 48 from rfl, iI_mul, iI_of (gA u 6 (i + 2)), iI_add, iI_sub, iI_t (B31_of _)]
      congr 1
      omega
    rw [f, f2, e3, iI_s]
    exact mr_tail hin e14 (h2 (by omega) d)
