theorem len31 {args : Array Value} {s : State} {t : Term} {v : Value} {a : Nat} {cell : Cell} (h : (Term.length t).eval args s none [] s = some v) (ht : t.eval args s none [] s = some (.ref a)) (hc : s.heap[a]? = some cell) : cell.slots.size < 2 ^ 31 := by
  obtain ⟨a', cell', h1, h2, -⟩ := Term.length_spec h
  cases ht.symm.trans h1
  obtain ⟨h3, -, -, -⟩ := State.arrayAt?_spec h2
  cases hc.symm.trans h3
  by_cases q : cell.slots.size < 2 ^ 31
  · exact q
  · simp [Term.eval, ht, h2, q] at h
theorem fx_of {args : Array Value} {s : State} {tm : Term} {t : Nat} {cA : ClassId} {f : Nat → Int32} {N : Nat} {A : Nat → Prop} (hN : N < 2 ^ 31) (hex : (Cond.exactly tm "[I").before args s = true) (hlen : (Term.length tm).eval args s none [] s = some (.int (Int32.ofNat N))) (ht : tm.eval args s none [] s = some (.ref t)) (hT : va_T .int t N (fun j => .int (f j)) A s s.heap) (hc : s.vm.findClass "[I" = some cA) : ∃ cell : Cell, s.heap[t]? = some cell ∧ cell.cls = cA ∧ cell.vm ≠ .unknown ∧ (∀ k, cell.vm ≠ .statics k) ∧ cell.slots = (vp_cell cA (N, .inl f)).slots ∧ ¬ A t := by
  obtain ⟨cell, h1, h2, h3, h4, h5, h6, h7⟩ := hT
  obtain ⟨a', c', cell', k', e1, e2, e3, e4, e5, e6, -⟩ := Cond.exactly_spec hex
  cases ht.symm.trans e1
  cases h1.symm.trans e3
  cases hc.symm.trans e2
  have hs := len31 hlen ht h1
  have hsz : cell.slots.size = N := by
    have hz : (cell.slots.size.toInt32).toNatClampNeg = (Int32.ofNat N).toNatClampNeg := by rw [h5]
    rwa [Int32.toNatClampNeg_ofNat_of_lt hN, show cell.slots.size.toInt32 = Int32.ofNat cell.slots.size from rfl, Int32.toNatClampNeg_ofNat_of_lt hs] at hz
  refine ⟨cell, h1, e6, h3, h2.1, ?_, h7⟩
  apply Array.ext_getElem?
  intro i
  rw [show (vp_cell cA (N, .inl f)).slots = (arrV cA N (fun j => .int (f j))).slots from rfl]
  rcases Nat.lt_or_ge i N with q | q
  · rw [h6 i q, arrV_read _ _ q]
  · rw [Array.getElem?_eq_none (by omega), Array.getElem?_eq_none (by rw [arrV_size]; omega)]
set_option maxHeartbeats 8000000 in
set_option maxRecDepth 100000 in
theorem start_of {p : Program} {e : Env} {s : State} {m : MethodId} {below : List Frame} {meth : Method} {c : Code} (l : Launch) {b L : Nat} {xs : Nat → Int32} (hL : L ≤ 3584) (C0 : lw_At p s m meth c b L xs) {LR : St → Option St → Option St → St → Prop} (hO : Ops LR) (hI : wp_X11_init z0 (fun mt => LR si0 none none mt)) : W p l e room_1 s m #[Value.ref b] below meth c s.heap [] 0 0 (lw_Z below #[Value.ref b] s) (entryFrame m ([Value.ref b] : List Value).toArray 4) := by
  obtain ⟨hx, hb, hr, hml, hown, hts0, hX, hbl, hlocks, hgv⟩ := id C0
  have hts : ∀ w ∈ wsL_law, w.before #[Value.ref b] s = true := fun w h => hts0 w (wsL_law_in w h)
  have hA : ∀ q : Nat, s.heap.size ≤ q → lwA s q := fun _ h => h
  have hnA : ∀ a : Nat, a < s.heap.size → ¬ lwA s a := fun a h z => absurd h (Nat.not_lt.mpr z)
  have hs := flat_of_before _ hgv
  obtain ⟨q0, iS0, hKn0⟩ := u_known (C := RX0) (T := TX0) (N := 6) (n := 6) hts inlX0 (hts _ w_2_2)
  obtain ⟨q1, iS1, hKn1⟩ := u_known (C := RX1) (T := TX1) (N := 4) (n := 4) hts inlX1 (hts _ w_2_10)
  obtain ⟨q2, iS2, hKn2⟩ := u_known (C := RX2) (T := TX2) (N := 3) (n := 3) hts inlX2 (hts _ w_3_14)
  obtain ⟨q3, iS3, hKn3⟩ := u_known (C := RX3) (T := TX3) (N := 2) (n := 2) hts inlX3 (hts _ w_2_14)
  obtain ⟨q4, iS4, hKn4⟩ := u_known (C := RX4) (T := TX4) (N := 2) (n := 2) hts inlX4 (hts _ w_1_13)
  obtain ⟨q5, iS5, hKn5⟩ := u_known (C := RX5) (T := TX5) (N := 2) (n := 2) hts inlX5 (hts _ w_1_22)
  obtain ⟨q6, iS6, hKn6⟩ := u_known (C := RX6) (T := TX6) (N := 4) (n := 4) hts inlX6 (hts _ w_3_10)
  obtain ⟨q7, iS7, hKn7⟩ := u_known (C := RX7) (T := TX7) (N := 6) (n := 6) hts inlX7 (hts _ w_1_17)
  obtain ⟨q8, iS8, hKn8⟩ := u_known (C := RX8) (T := TX8) (N := 2) (n := 2) hts inlX8 (hts _ w_2_6)
  obtain ⟨q9, iS9, hKn9⟩ := u_known (C := RX10) (T := TX10) (N := 8) (n := 8) hts inlX10 (hts _ w_1_1)
  obtain ⟨q10, iS10, hKn10⟩ := u_known (C := RX11) (T := TX11) (N := 35) (n := 35) hts inlX11 (hts _ w_1_4)
  obtain ⟨dC, dI, hKc⟩ : ∃ (dC : Nat → ClassId) (dI : Nat → Nat → Nat), ∀ (k : Nat) (q : vw_C), vwCl[k]? = some q → u_Kn s q.1 q.2.1 q.2.2 (dC k) (dI k) := by
    refine ⟨fun k => [q0, q1, q2, q3, q4, q5, q6, q7, q8, q9, q10].getD k q0, fun k => [iS0, iS1, iS2, iS3, iS4, iS5, iS6, iS7, iS8, iS9, iS10].getD k iS0, ?_⟩
    intro k q hq
    match k, hq with
    | 0, hq => cases hq; exact hKn0
    | 1, hq => cases hq; exact hKn1
    | 2, hq => cases hq; exact hKn2
    | 3, hq => cases hq; exact hKn3
    | 4, hq => cases hq; exact hKn4
    | 5, hq => cases hq; exact hKn5
    | 6, hq => cases hq; exact hKn6
    | 7, hq => cases hq; exact hKn7
    | 8, hq => cases hq; exact hKn8
    | 9, hq => cases hq; exact hKn9
    | 10, hq => cases hq; exact hKn10
    | k + 11, hq => simp [vwCl] at hq
  obtain ⟨y0, ky0, cy0, f0a, f0b, f0c⟩ := Cond.arrayClass_spec (hts _ w_2_20)
  obtain ⟨y1, ky1, cy1, f1a, f1b, f1c⟩ := Cond.arrayClass_spec (hts _ w_4_16)
  obtain ⟨y2, ky2, cy2, f2a, f2b, f2c⟩ := Cond.arrayClass_spec (hts _ w_5_15)
  have hAO : (Cond.arrayOver (.object RX7)).before #[Value.ref b] s = true := hts0 _ (wt_1 _ (List.mem_of_getElem? (i := 120) rfl))
  obtain ⟨cm3, y3, ky3, g1, g2, g3, g4, g5⟩ := Cond.arrayOver_spec hAO
  obtain ⟨cy, hcy⟩ : ∃ cy : Nat → ClassId, cy = (fun k => [y0, y1, y2, y3].getD k y0) := ⟨_, rfl⟩
  have hK : va_K (dC, dI) vwCl (TY cy) s := by
    refine ⟨hKc, ?_⟩
    intro k q hq
    rw [hcy] at hq
    match k, hq with
    | 0, hq => cases hq; exact ⟨fun n z => ⟨fun k h => (by cases h), ky0, f0b, cy0, f0c⟩, f0a⟩
    | 1, hq => cases hq; exact ⟨fun n z => ⟨fun k h => (by cases h), ky1, f1b, cy1, f1c⟩, f1a⟩
    | 2, hq => cases hq; exact ⟨fun n z => ⟨fun k h => (by cases h), ky2, f2b, cy2, f2c⟩, f2a⟩
    | 3, hq => cases hq; exact ⟨fun n z => ⟨fun k h => (by cases h), ky3, g3, cm3, g4⟩, ky3, cm3, g3, g4, g1, g5⟩
    | k + 4, hq => simp [TY] at hq
  have hln0 : (Term.length (Term.static "RoundThrow$Ways" "SINES" "[I")).eval #[Value.ref b] s none [] s = some (.int (Int32.ofNat 24)) := va_eqt (hs (Cond.eq (.length (Term.static "RoundThrow$Ways" "SINES" "[I")) (.int 24)) (by decide +kernel))
  have hel0 : ∀ j : Nat, j < 24 → (Term.elem (Term.static "RoundThrow$Ways" "SINES" "[I") (.int (Int32.ofNat j))).eval #[Value.ref b] s none [] s = some (.int (zS j)) := by
    intro j hj
    rcases (show j = 0 ∨ j = 1 ∨ j = 2 ∨ j = 3 ∨ j = 4 ∨ j = 5 ∨ j = 6 ∨ j = 7 ∨ j = 8 ∨ j = 9 ∨ j = 10 ∨ j = 11 ∨ j = 12 ∨ j = 13 ∨ j = 14 ∨ j = 15 ∨ j = 16 ∨ j = 17 ∨ j = 18 ∨ j = 19 ∨ j = 20 ∨ j = 21 ∨ j = 22 ∨ j = 23 by omega) with rfl | rfl | rfl | rfl | rfl | rfl | rfl | rfl | rfl | rfl | rfl | rfl | rfl | rfl | rfl | rfl | rfl | rfl | rfl | rfl | rfl | rfl | rfl | rfl
    · exact va_eqt (z := 0) (hs (Cond.eq (.elem (Term.static "RoundThrow$Ways" "SINES" "[I") (.int 0)) (.int 0)) (by decide +kernel))
    · exact va_eqt (z := 2588) (hs (Cond.eq (.elem (Term.static "RoundThrow$Ways" "SINES" "[I") (.int 1)) (.int 2588)) (by decide +kernel))
    · exact va_eqt (z := 5000) (hs (Cond.eq (.elem (Term.static "RoundThrow$Ways" "SINES" "[I") (.int 2)) (.int 5000)) (by decide +kernel))
    · exact va_eqt (z := 7071) (hs (Cond.eq (.elem (Term.static "RoundThrow$Ways" "SINES" "[I") (.int 3)) (.int 7071)) (by decide +kernel))
    · exact va_eqt (z := 8660) (hs (Cond.eq (.elem (Term.static "RoundThrow$Ways" "SINES" "[I") (.int 4)) (.int 8660)) (by decide +kernel))
    · exact va_eqt (z := 9659) (hs (Cond.eq (.elem (Term.static "RoundThrow$Ways" "SINES" "[I") (.int 5)) (.int 9659)) (by decide +kernel))
    · exact va_eqt (z := 10000) (hs (Cond.eq (.elem (Term.static "RoundThrow$Ways" "SINES" "[I") (.int 6)) (.int 10000)) (by decide +kernel))
    · exact va_eqt (z := 9659) (hs (Cond.eq (.elem (Term.static "RoundThrow$Ways" "SINES" "[I") (.int 7)) (.int 9659)) (by decide +kernel))
    · exact va_eqt (z := 8660) (hs (Cond.eq (.elem (Term.static "RoundThrow$Ways" "SINES" "[I") (.int 8)) (.int 8660)) (by decide +kernel))
    · exact va_eqt (z := 7071) (hs (Cond.eq (.elem (Term.static "RoundThrow$Ways" "SINES" "[I") (.int 9)) (.int 7071)) (by decide +kernel))
    · exact va_eqt (z := 5000) (hs (Cond.eq (.elem (Term.static "RoundThrow$Ways" "SINES" "[I") (.int 10)) (.int 5000)) (by decide +kernel))
    · exact va_eqt (z := 2588) (hs (Cond.eq (.elem (Term.static "RoundThrow$Ways" "SINES" "[I") (.int 11)) (.int 2588)) (by decide +kernel))
    · exact va_eqt (z := 0) (hs (Cond.eq (.elem (Term.static "RoundThrow$Ways" "SINES" "[I") (.int 12)) (.int 0)) (by decide +kernel))
    · exact va_eqt (z := (-2588)) (hs (Cond.eq (.elem (Term.static "RoundThrow$Ways" "SINES" "[I") (.int 13)) (.int (-2588))) (by decide +kernel))
    · exact va_eqt (z := (-5000)) (hs (Cond.eq (.elem (Term.static "RoundThrow$Ways" "SINES" "[I") (.int 14)) (.int (-5000))) (by decide +kernel))
    · exact va_eqt (z := (-7071)) (hs (Cond.eq (.elem (Term.static "RoundThrow$Ways" "SINES" "[I") (.int 15)) (.int (-7071))) (by decide +kernel))
    · exact va_eqt (z := (-8660)) (hs (Cond.eq (.elem (Term.static "RoundThrow$Ways" "SINES" "[I") (.int 16)) (.int (-8660))) (by decide +kernel))
    · exact va_eqt (z := (-9659)) (hs (Cond.eq (.elem (Term.static "RoundThrow$Ways" "SINES" "[I") (.int 17)) (.int (-9659))) (by decide +kernel))
    · exact va_eqt (z := (-10000)) (hs (Cond.eq (.elem (Term.static "RoundThrow$Ways" "SINES" "[I") (.int 18)) (.int (-10000))) (by decide +kernel))
    · exact va_eqt (z := (-9659)) (hs (Cond.eq (.elem (Term.static "RoundThrow$Ways" "SINES" "[I") (.int 19)) (.int (-9659))) (by decide +kernel))
    · exact va_eqt (z := (-8660)) (hs (Cond.eq (.elem (Term.static "RoundThrow$Ways" "SINES" "[I") (.int 20)) (.int (-8660))) (by decide +kernel))
    · exact va_eqt (z := (-7071)) (hs (Cond.eq (.elem (Term.static "RoundThrow$Ways" "SINES" "[I") (.int 21)) (.int (-7071))) (by decide +kernel))
    · exact va_eqt (z := (-5000)) (hs (Cond.eq (.elem (Term.static "RoundThrow$Ways" "SINES" "[I") (.int 22)) (.int (-5000))) (by decide +kernel))
    · exact va_eqt (z := (-2588)) (hs (Cond.eq (.elem (Term.static "RoundThrow$Ways" "SINES" "[I") (.int 23)) (.int (-2588))) (by decide +kernel))
  obtain ⟨t0, he0, hT0⟩ := va_Tof (f := fun j => .int (zS j)) (A := lwA s) (N := 24) (by decide) (hs (Cond.arrayOf (Term.static "RoundThrow$Ways" "SINES" "[I") .int) (by decide +kernel)) hln0 hel0 hnA
  have hZ0 : va_Z RX9 "SINES" "[I" (.ref t0) (lwA s) s s.heap := va_Zof (hts0 _ (wt_2 _ (List.mem_of_getElem? (i := 109) rfl))) (hts _ w_13_7) he0 hnA
  have hln1 : (Term.length (Term.static "RoundThrow$Setup" "LEAST" "[I")).eval #[Value.ref b] s none [] s = some (.int (Int32.ofNat 5)) := va_eqt (hs (Cond.eq (.length (Term.static "RoundThrow$Setup" "LEAST" "[I")) (.int 5)) (by decide +kernel))
  have hel1 : ∀ j : Nat, j < 5 → (Term.elem (Term.static "RoundThrow$Setup" "LEAST" "[I") (.int (Int32.ofNat j))).eval #[Value.ref b] s none [] s = some (.int (zL j)) := by
    intro j hj
    rcases (show j = 0 ∨ j = 1 ∨ j = 2 ∨ j = 3 ∨ j = 4 by omega) with rfl | rfl | rfl | rfl | rfl
    · exact va_eqt (z := 1) (hs (Cond.eq (.elem (Term.static "RoundThrow$Setup" "LEAST" "[I") (.int 0)) (.int 1)) (by decide +kernel))
    · exact va_eqt (z := 0) (hs (Cond.eq (.elem (Term.static "RoundThrow$Setup" "LEAST" "[I") (.int 1)) (.int 0)) (by decide +kernel))
    · exact va_eqt (z := 0) (hs (Cond.eq (.elem (Term.static "RoundThrow$Setup" "LEAST" "[I") (.int 2)) (.int 0)) (by decide +kernel))
    · exact va_eqt (z := 0) (hs (Cond.eq (.elem (Term.static "RoundThrow$Setup" "LEAST" "[I") (.int 3)) (.int 0)) (by decide +kernel))
    · exact va_eqt (z := 100) (hs (Cond.eq (.elem (Term.static "RoundThrow$Setup" "LEAST" "[I") (.int 4)) (.int 100)) (by decide +kernel))
  obtain ⟨t1, he1, hT1⟩ := va_Tof (f := fun j => .int (zL j)) (A := lwA s) (N := 5) (by decide) (hs (Cond.arrayOf (Term.static "RoundThrow$Setup" "LEAST" "[I") .int) (by decide +kernel)) hln1 hel1 hnA
  have hZ1 : va_Z RX7 "LEAST" "[I" (.ref t1) (lwA s) s s.heap := va_Zof (hts0 _ (wt_2 _ (List.mem_of_getElem? (i := 12) rfl))) (hts _ w_1_18) he1 hnA
  have hln2 : (Term.length (Term.static "RoundThrow$Setup" "MOST" "[I")).eval #[Value.ref b] s none [] s = some (.int (Int32.ofNat 5)) := va_eqt (hs (Cond.eq (.length (Term.static "RoundThrow$Setup" "MOST" "[I")) (.int 5)) (by decide +kernel))
  have hel2 : ∀ j : Nat, j < 5 → (Term.elem (Term.static "RoundThrow$Setup" "MOST" "[I") (.int (Int32.ofNat j))).eval #[Value.ref b] s none [] s = some (.int (zM j)) := by
    intro j hj
    rcases (show j = 0 ∨ j = 1 ∨ j = 2 ∨ j = 3 ∨ j = 4 by omega) with rfl | rfl | rfl | rfl | rfl
    · exact va_eqt (z := 199) (hs (Cond.eq (.elem (Term.static "RoundThrow$Setup" "MOST" "[I") (.int 0)) (.int 199)) (by decide +kernel))
    · exact va_eqt (z := 9) (hs (Cond.eq (.elem (Term.static "RoundThrow$Setup" "MOST" "[I") (.int 1)) (.int 9)) (by decide +kernel))
    · exact va_eqt (z := 200) (hs (Cond.eq (.elem (Term.static "RoundThrow$Setup" "MOST" "[I") (.int 2)) (.int 200)) (by decide +kernel))
    · exact va_eqt (z := 100) (hs (Cond.eq (.elem (Term.static "RoundThrow$Setup" "MOST" "[I") (.int 3)) (.int 100)) (by decide +kernel))
    · exact va_eqt (z := 1000) (hs (Cond.eq (.elem (Term.static "RoundThrow$Setup" "MOST" "[I") (.int 4)) (.int 1000)) (by decide +kernel))
  obtain ⟨t2, he2, hT2⟩ := va_Tof (f := fun j => .int (zM j)) (A := lwA s) (N := 5) (by decide) (hs (Cond.arrayOf (Term.static "RoundThrow$Setup" "MOST" "[I") .int) (by decide +kernel)) hln2 hel2 hnA
  have hZ2 : va_Z RX7 "MOST" "[I" (.ref t2) (lwA s) s s.heap := va_Zof (hts0 _ (wt_2 _ (List.mem_of_getElem? (i := 14) rfl))) (hts _ w_1_18) he2 hnA
  have hln3 : (Term.length (Term.static "RoundThrow$Setup" "FIRST" "[I")).eval #[Value.ref b] s none [] s = some (.int (Int32.ofNat 5)) := va_eqt (hs (Cond.eq (.length (Term.static "RoundThrow$Setup" "FIRST" "[I")) (.int 5)) (by decide +kernel))
  have hel3 : ∀ j : Nat, j < 5 → (Term.elem (Term.static "RoundThrow$Setup" "FIRST" "[I") (.int (Int32.ofNat j))).eval #[Value.ref b] s none [] s = some (.int (zF j)) := by
    intro j hj
    rcases (show j = 0 ∨ j = 1 ∨ j = 2 ∨ j = 3 ∨ j = 4 by omega) with rfl | rfl | rfl | rfl | rfl
    · exact va_eqt (z := 110) (hs (Cond.eq (.elem (Term.static "RoundThrow$Setup" "FIRST" "[I") (.int 0)) (.int 110)) (by decide +kernel))
    · exact va_eqt (z := 0) (hs (Cond.eq (.elem (Term.static "RoundThrow$Setup" "FIRST" "[I") (.int 1)) (.int 0)) (by decide +kernel))
    · exact va_eqt (z := 30) (hs (Cond.eq (.elem (Term.static "RoundThrow$Setup" "FIRST" "[I") (.int 2)) (.int 30)) (by decide +kernel))
    · exact va_eqt (z := 20) (hs (Cond.eq (.elem (Term.static "RoundThrow$Setup" "FIRST" "[I") (.int 3)) (.int 20)) (by decide +kernel))
    · exact va_eqt (z := 500) (hs (Cond.eq (.elem (Term.static "RoundThrow$Setup" "FIRST" "[I") (.int 4)) (.int 500)) (by decide +kernel))
  obtain ⟨t3, he3, hT3⟩ := va_Tof (f := fun j => .int (zF j)) (A := lwA s) (N := 5) (by decide) (hs (Cond.arrayOf (Term.static "RoundThrow$Setup" "FIRST" "[I") .int) (by decide +kernel)) hln3 hel3 hnA
  have hZ3 : va_Z RX7 "FIRST" "[I" (.ref t3) (lwA s) s s.heap := va_Zof (hts0 _ (wt_1 _ (List.mem_of_getElem? (i := 49) rfl))) (hts _ w_1_18) he3 hnA
  obtain ⟨tz, htz⟩ : ∃ tz : Nat → Nat, tz = (fun k => [t0, t1, t2, t3].getD k 0) := ⟨_, rfl⟩
  have hz1 : zz1 tz (lwA s) s s.heap := by rw [htz]; exact ⟨⟨hZ0, hT0⟩, ⟨hZ1, hT1⟩, ⟨hZ2, hT2⟩, ⟨hZ3, hT3⟩⟩
  have hz2 : zz2 s := ⟨va_Nw.of rfl (hts0 _ (wt_1 _ (List.mem_of_getElem? (i := 27) rfl))), va_Nw.of rfl (hts0 _ (wt_1 _ (List.mem_of_getElem? (i := 44) rfl))), va_Nw.of rfl (hts0 _ (wt_1 _ (List.mem_of_getElem? (i := 59) rfl))), va_Nw.of rfl (hts0 _ (wt_1 _ (List.mem_of_getElem? (i := 79) rfl))), va_Nw.of rfl (hts0 _ (wt_1 _ (List.mem_of_getElem? (i := 123) rfl))), va_Nw.of rfl (hts0 _ (wt_1 _ (List.mem_of_getElem? (i := 138) rfl))), va_Nw.of rfl (hts0 _ (wt_1 _ (List.mem_of_getElem? (i := 165) rfl))), va_Nw.of rfl (hts0 _ (wt_1 _ (List.mem_of_getElem? (i := 181) rfl))), va_Nw.of rfl (hts0 _ (wt_1 _ (List.mem_of_getElem? (i := 203) rfl))), va_Nw.of rfl (hts0 _ (wt_2 _ (List.mem_of_getElem? (i := 8) rfl))), va_Nw.of rfl (hts0 _ (wt_1 _ (List.mem_of_getElem? (i := 55) rfl)))⟩
  have hZ : ZZ tz (lwA s) s s.heap := ⟨hz1, hz2⟩
  have hXX : XX tz cy (lwA s) s s.heap := ⟨by rw [htz, hcy]; exact fx_of (by decide) (hs (Cond.exactly (.static "RoundThrow$Setup" "FIRST" "[I") "[I") (by decide +kernel)) hln3 he3 hT3 f0a, va_AO.of hAO⟩
  have hC : Lc p s m meth c (dC, dI) cy tz b L xs := ⟨hx, hb, hr, hml, hown, hts, hX, hbl, hlocks, hK, hZ, hXX⟩
  have SF : CallFix p m c code 4 s #[Value.ref b] wsL_law RL := ⟨hx, hb, hml, hown, hts⟩
  have hS : va_S (lwA s) s.heap s.heap [] := va_S.rf
  have hP : va_P (dC, dI) vwCl [] s.heap := fun k q h => by simp at h
  have hD : va_D (lwA s) [] := ⟨fun i j p q h => by simp at h, fun k q h => by simp at h⟩
  generalize (dC, dI) = D at hK hC hP
  have hl := lv_entry ([.ref b]) (n := 4) (Nat.le_of_ble_eq_true rfl)
  rw [lg_entry_eq]
  generalize (lg_sl ([.ref b]) ++ List.replicate (4 - (lg_sl ([.ref b])).length) Slot.unset).toArray = ls at hl ⊢
  have hl : lv_has ls 4 [(0, .ref b)] := hl
  refine va_new (ci := 9) (fs := [.null, .null, .null, .null, .null, .null, .null, .null]) (C := RX10) (T := TX10) (N := 8) hx hb hts inlX10 tyX10 tyX10_ok hown (hts _ w_1_0) (hts _ w_1_1) (hts _ w_1_2) hK hP hD hS hA rfl (fun j hj => by rcases (show j = 0 ∨ j = 1 ∨ j = 2 ∨ j = 3 ∨ j = 4 ∨ j = 5 ∨ j = 6 ∨ j = 7 by omega) with rfl | rfl | rfl | rfl | rfl | rfl | rfl | rfl <;> rfl) (Nat.le_of_ble_eq_true rfl) (Nat.le_of_ble_eq_true rfl) dL_law_0 (fun qx H hP hD hS => ?_)
  refine lv_dup hx hb dL_law_3 rfl ?_
  refine callIx (r := []) (rest := [.ref qx]) SF (c_X10_init l D cy tz qx) (cwI 0 hts (gdC w_1_8) rfl rfl rfl (hts _ w_1_2) (hts _ w_1_6) (hts _ w_1_7) rfl (by decide +kernel) ⟨Nat.le_of_ble_eq_true rfl, Nat.le_of_ble_eq_true rfl⟩) hK hZ hXX hA hP hD hS hl.1 (Nat.le_of_ble_eq_true rfl) dL_law_4 ⟨Nat.le_of_ble_eq_true rfl, Nat.le_of_ble_eq_true rfl⟩ (fun u H locs hw hP hD hS => ?_)
  have hPn : va_P D vwCl ([wJ cy (adl [qx, (u.1), (u.2.1), (u.2.2.1), (u.2.2.2.1), (u.2.2.2.2.1), (u.2.2.2.2.2.1), (u.2.2.2.2.2.2.1), (u.2.2.2.2.2.2.2.1), (u.2.2.2.2.2.2.2.2.1), (u.2.2.2.2.2.2.2.2.2.1), (u.2.2.2.2.2.2.2.2.2.2.1), (u.2.2.2.2.2.2.2.2.2.2.2.1), (u.2.2.2.2.2.2.2.2.2.2.2.2.2.1), (u.2.2.2.2.2.2.2.2.2.2.2.2.2.2.1), (u.2.2.2.2.2.2.2.2.2.2.2.2.2.2.2.1), (u.2.2.2.2.2.2.2.2.2.2.2.2.2.2.2.2.1), (u.2.2.2.2.2.2.2.2.2.2.2.2.2.2.2.2.2.1), (u.2.2.2.2.2.2.2.2.2.2.2.2.2.2.2.2.2.2.1), (u.2.2.2.2.2.2.2.2.2.2.2.2.2.2.2.2.2.2.2.1), (u.2.2.2.2.2.2.2.2.2.2.2.2.2.2.2.2.2.2.2.2.1), (u.2.2.2.2.2.2.2.2.2.2.2.2.2.2.2.2.2.2.2.2.2.1), (u.2.2.2.2.2.2.2.2.2.2.2.2.2.2.2.2.2.2.2.2.2.2), (u.2.2.2.2.2.2.2.2.2.2.2.2.1)]) (fun _ => none)] ++ wX cy (adl [qx, (u.1), (u.2.1), (u.2.2.1), (u.2.2.2.1), (u.2.2.2.2.1), (u.2.2.2.2.2.1), (u.2.2.2.2.2.2.1), (u.2.2.2.2.2.2.2.1), (u.2.2.2.2.2.2.2.2.1), (u.2.2.2.2.2.2.2.2.2.1), (u.2.2.2.2.2.2.2.2.2.2.1), (u.2.2.2.2.2.2.2.2.2.2.2.1), (u.2.2.2.2.2.2.2.2.2.2.2.2.2.1), (u.2.2.2.2.2.2.2.2.2.2.2.2.2.2.1), (u.2.2.2.2.2.2.2.2.2.2.2.2.2.2.2.1), (u.2.2.2.2.2.2.2.2.2.2.2.2.2.2.2.2.1), (u.2.2.2.2.2.2.2.2.2.2.2.2.2.2.2.2.2.1), (u.2.2.2.2.2.2.2.2.2.2.2.2.2.2.2.2.2.2.1), (u.2.2.2.2.2.2.2.2.2.2.2.2.2.2.2.2.2.2.2.1), (u.2.2.2.2.2.2.2.2.2.2.2.2.2.2.2.2.2.2.2.2.1), (u.2.2.2.2.2.2.2.2.2.2.2.2.2.2.2.2.2.2.2.2.2.1), (u.2.2.2.2.2.2.2.2.2.2.2.2.2.2.2.2.2.2.2.2.2.2), (u.2.2.2.2.2.2.2.2.2.2.2.2.1)]) si0) H := hP.sub [13, 0, 1, 2, 3, 4, 5, 6, 7, 8, 9, 10, 11, 12, 14, 15, 16, 17, 18, 19, 20, 21, 22, 23] rfl
  have hDn : va_D (lwA s) ([wJ cy (adl [qx, (u.1), (u.2.1), (u.2.2.1), (u.2.2.2.1), (u.2.2.2.2.1), (u.2.2.2.2.2.1), (u.2.2.2.2.2.2.1), (u.2.2.2.2.2.2.2.1), (u.2.2.2.2.2.2.2.2.1), (u.2.2.2.2.2.2.2.2.2.1), (u.2.2.2.2.2.2.2.2.2.2.1), (u.2.2.2.2.2.2.2.2.2.2.2.1), (u.2.2.2.2.2.2.2.2.2.2.2.2.2.1), (u.2.2.2.2.2.2.2.2.2.2.2.2.2.2.1), (u.2.2.2.2.2.2.2.2.2.2.2.2.2.2.2.1), (u.2.2.2.2.2.2.2.2.2.2.2.2.2.2.2.2.1), (u.2.2.2.2.2.2.2.2.2.2.2.2.2.2.2.2.2.1), (u.2.2.2.2.2.2.2.2.2.2.2.2.2.2.2.2.2.2.1), (u.2.2.2.2.2.2.2.2.2.2.2.2.2.2.2.2.2.2.2.1), (u.2.2.2.2.2.2.2.2.2.2.2.2.2.2.2.2.2.2.2.2.1), (u.2.2.2.2.2.2.2.2.2.2.2.2.2.2.2.2.2.2.2.2.2.1), (u.2.2.2.2.2.2.2.2.2.2.2.2.2.2.2.2.2.2.2.2.2.2), (u.2.2.2.2.2.2.2.2.2.2.2.2.1)]) (fun _ => none)] ++ wX cy (adl [qx, (u.1), (u.2.1), (u.2.2.1), (u.2.2.2.1), (u.2.2.2.2.1), (u.2.2.2.2.2.1), (u.2.2.2.2.2.2.1), (u.2.2.2.2.2.2.2.1), (u.2.2.2.2.2.2.2.2.1), (u.2.2.2.2.2.2.2.2.2.1), (u.2.2.2.2.2.2.2.2.2.2.1), (u.2.2.2.2.2.2.2.2.2.2.2.1), (u.2.2.2.2.2.2.2.2.2.2.2.2.2.1), (u.2.2.2.2.2.2.2.2.2.2.2.2.2.2.1), (u.2.2.2.2.2.2.2.2.2.2.2.2.2.2.2.1), (u.2.2.2.2.2.2.2.2.2.2.2.2.2.2.2.2.1), (u.2.2.2.2.2.2.2.2.2.2.2.2.2.2.2.2.2.1), (u.2.2.2.2.2.2.2.2.2.2.2.2.2.2.2.2.2.2.1), (u.2.2.2.2.2.2.2.2.2.2.2.2.2.2.2.2.2.2.2.1), (u.2.2.2.2.2.2.2.2.2.2.2.2.2.2.2.2.2.2.2.2.1), (u.2.2.2.2.2.2.2.2.2.2.2.2.2.2.2.2.2.2.2.2.2.1), (u.2.2.2.2.2.2.2.2.2.2.2.2.2.2.2.2.2.2.2.2.2.2), (u.2.2.2.2.2.2.2.2.2.2.2.2.1)]) si0) := hD.sub [13, 0, 1, 2, 3, 4, 5, 6, 7, 8, 9, 10, 11, 12, 14, 15, 16, 17, 18, 19, 20, 21, 22, 23] (by decide) rfl
  have had : qx = (adl [qx, (u.1), (u.2.1), (u.2.2.1), (u.2.2.2.1), (u.2.2.2.2.1), (u.2.2.2.2.2.1), (u.2.2.2.2.2.2.1), (u.2.2.2.2.2.2.2.1), (u.2.2.2.2.2.2.2.2.1), (u.2.2.2.2.2.2.2.2.2.1), (u.2.2.2.2.2.2.2.2.2.2.1), (u.2.2.2.2.2.2.2.2.2.2.2.1), (u.2.2.2.2.2.2.2.2.2.2.2.2.2.1), (u.2.2.2.2.2.2.2.2.2.2.2.2.2.2.1), (u.2.2.2.2.2.2.2.2.2.2.2.2.2.2.2.1), (u.2.2.2.2.2.2.2.2.2.2.2.2.2.2.2.2.1), (u.2.2.2.2.2.2.2.2.2.2.2.2.2.2.2.2.2.1), (u.2.2.2.2.2.2.2.2.2.2.2.2.2.2.2.2.2.2.1), (u.2.2.2.2.2.2.2.2.2.2.2.2.2.2.2.2.2.2.2.1), (u.2.2.2.2.2.2.2.2.2.2.2.2.2.2.2.2.2.2.2.2.1), (u.2.2.2.2.2.2.2.2.2.2.2.2.2.2.2.2.2.2.2.2.2.1), (u.2.2.2.2.2.2.2.2.2.2.2.2.2.2.2.2.2.2.2.2.2.2), (u.2.2.2.2.2.2.2.2.2.2.2.2.1)]) 0 := rfl
  generalize adl [qx, (u.1), (u.2.1), (u.2.2.1), (u.2.2.2.1), (u.2.2.2.2.1), (u.2.2.2.2.2.1), (u.2.2.2.2.2.2.1), (u.2.2.2.2.2.2.2.1), (u.2.2.2.2.2.2.2.2.1), (u.2.2.2.2.2.2.2.2.2.1), (u.2.2.2.2.2.2.2.2.2.2.1), (u.2.2.2.2.2.2.2.2.2.2.2.1), (u.2.2.2.2.2.2.2.2.2.2.2.2.2.1), (u.2.2.2.2.2.2.2.2.2.2.2.2.2.2.1), (u.2.2.2.2.2.2.2.2.2.2.2.2.2.2.2.1), (u.2.2.2.2.2.2.2.2.2.2.2.2.2.2.2.2.1), (u.2.2.2.2.2.2.2.2.2.2.2.2.2.2.2.2.2.1), (u.2.2.2.2.2.2.2.2.2.2.2.2.2.2.2.2.2.2.1), (u.2.2.2.2.2.2.2.2.2.2.2.2.2.2.2.2.2.2.2.1), (u.2.2.2.2.2.2.2.2.2.2.2.2.2.2.2.2.2.2.2.2.1), (u.2.2.2.2.2.2.2.2.2.2.2.2.2.2.2.2.2.2.2.2.2.1), (u.2.2.2.2.2.2.2.2.2.2.2.2.2.2.2.2.2.2.2.2.2.2), (u.2.2.2.2.2.2.2.2.2.2.2.2.1)] = ad at hPn hDn had
  subst had
  have hP := hPn
  have hD := hDn
  refine lv_astore_n (lv' := [(1, .ref (ad 0)), (0, .ref b)]) hx hb dL_law_7 rfl hl (by decide) rfl (fun ls hl => ?_)
  refine va_new (ci := 10) (fs := [.null, .int 0, .int 0, .null, .null, .null, .null, .int 0, .null, .null, .int 0, .int 0, .null, .null, .int 0, .int 0, .int 0, .int 0, .int 0, .null, .null, .null, .int 0, .int 0, .int 0, .null, .null, .int 0, .null, .null, .int 0, .null, .null, .int 0, .int 0]) (C := RX11) (T := TX11) (N := 35) hx hb hts inlX11 tyX11 tyX11_ok hown (hts _ w_1_3) (hts _ w_1_4) (hts _ w_1_5) hK hP hD hS hA rfl (fun j hj => by rcases (show j = 0 ∨ j = 1 ∨ j = 2 ∨ j = 3 ∨ j = 4 ∨ j = 5 ∨ j = 6 ∨ j = 7 ∨ j = 8 ∨ j = 9 ∨ j = 10 ∨ j = 11 ∨ j = 12 ∨ j = 13 ∨ j = 14 ∨ j = 15 ∨ j = 16 ∨ j = 17 ∨ j = 18 ∨ j = 19 ∨ j = 20 ∨ j = 21 ∨ j = 22 ∨ j = 23 ∨ j = 24 ∨ j = 25 ∨ j = 26 ∨ j = 27 ∨ j = 28 ∨ j = 29 ∨ j = 30 ∨ j = 31 ∨ j = 32 ∨ j = 33 ∨ j = 34 by omega) with rfl | rfl | rfl | rfl | rfl | rfl | rfl | rfl | rfl | rfl | rfl | rfl | rfl | rfl | rfl | rfl | rfl | rfl | rfl | rfl | rfl | rfl | rfl | rfl | rfl | rfl | rfl | rfl | rfl | rfl | rfl | rfl | rfl | rfl | rfl <;> rfl) (Nat.le_of_ble_eq_true rfl) (Nat.le_of_ble_eq_true rfl) dL_law_8 (fun qm H hP hD hS => ?_)
  refine lv_dup hx hb dL_law_11 rfl ?_
  refine callIx (r := [wJ cy ad (fun _ => none)] ++ wX cy ad si0) (rest := [.ref qm]) SF (c_X11_init l D cy tz qm _ hI) (cwI 0 hts (gdC w_5_4) rfl rfl rfl (hts _ w_1_5) (hts _ w_5_2) (hts _ w_5_3) rfl (by decide +kernel) ⟨Nat.le_of_ble_eq_true rfl, Nat.le_of_ble_eq_true rfl⟩) hK hZ hXX hA hP hD hS hl.1 (Nat.le_of_ble_eq_true rfl) dL_law_12 ⟨Nat.le_of_ble_eq_true rfl, Nat.le_of_ble_eq_true rfl⟩ (fun um H locs hw hP hD hS => ?_)
  obtain ⟨bd, mt⟩ := um
  obtain ⟨hb0, hLR⟩ := hw
  have hb0 : bd 0 = qm := hb0
  have hPm : va_P D vwCl (wA cy ad bd si0 mt (fun _ => none) none none) H := hP
  have hDm : va_D (lwA s) (wA cy ad bd si0 mt (fun _ => none) none none) := hD
  have hSm : va_S (lwA s) s.heap H locs := hS
  subst hb0
  refine lv_astore_n (lv' := [(2, .ref (bd 0)), (1, .ref (ad 0)), (0, .ref b)]) hx hb dL_law_15 rfl hl (by decide) rfl (fun ls hl => ?_)
  refine lv_iconst (v := 0) hx hb dL_law_16 (by decide) ?_
  refine lv_istore_n (lv' := [(3, .int 0), (2, .ref (bd 0)), (1, .ref (ad 0)), (0, .ref b)]) hx hb dL_law_17 rfl hl (by decide) rfl (fun ls hl => ?_)
  refine W.widen (k := 43 + 10 * 0) (n := 2688 + 122 * 0) (Nat.le_of_ble_eq_true rfl) (Nat.le_of_ble_eq_true rfl) ?_
  exact law_loop hL hC hO (L + 1) 0 0 si0 mt (fun _ => none) none none H locs ls (Nat.zero_le L) (by omega) nI_0.symm hLR ⟨rfl, rfl⟩ hPm hDm hSm (lv_sub hl [3, 2, 1, 0] rfl)
