theorem pl_dot {st mt t u : St} {i : Nat} (h : PL st mt t u i) : PL st mt (sI t 3 (gI t 3 + 1)) (sI u 11 (gI u 11 + 1)) (i + 2) := by
  obtain ⟨h1, h2, h3, h4, ⟨c, h5, h6⟩, h7⟩ := h
  refine ⟨h1.tr (FR.sI 3 _ (by decide)), h2.tr (FR.sI 11 _ (by decide)), h3, ?_, ⟨c, h5, by omega⟩, h7⟩
  show gI t 3 + 1 = gI u 11 + 1
  rw [h4]
theorem pl_up {st mt t u : St} {i j : Nat} (h : PL st mt t u i) (hj : i ≤ j) : PL st mt t u j := by
  obtain ⟨h1, h2, h3, h4, ⟨c, h5, h6⟩, h7⟩ := h
  exact ⟨h1, h2, h3, h4, ⟨c, h5, by omega⟩, h7⟩
theorem pl_sg {st mt t u : St} {i : Nat} (h : PL st mt t u i) (hi : i + 2 ≤ 40) {v w : Int32} (hv : rI 0 1000 v) (hw : rI (-99) 99 w) : PL st mt (X2 t v w) (U2 u v w) (i + 2) := by
  obtain ⟨h1, h2, h3, h4, ⟨c, h5, h6⟩, h7⟩ := h
  refine ⟨((((h1.tr (FR.sI 3 _ (by decide))).tr (FR.sA 2 _ (by decide))).tr (FR.sA 3 _ (by decide))).tr (FR.sI 2 _ (by decide))), ((((h2.tr (FR.sI 11 _ (by decide))).tr (FR.sA 8 _ (by decide))).tr (FR.sA 9 _ (by decide))).tr (FR.sI 10 _ (by decide))), ?_, ?_, ⟨c + 1, ?_, by omega⟩, ?_⟩
  · show gI t 2 + 1 = gI u 10 + 1
    rw [h3]
  · show gI t 3 + 1 = gI u 11 + 1
    rw [h4]
  · show gI t 2 + 1 = iI ((c + 1 : Nat) : Int)
    rw [h5, iI_s]
  · intro k hk
    show (upd (gA t 2) (gI t 2).toNatClampNeg v k = upd (gA u 8) (gI u 10).toNatClampNeg v k ∧ upd (gA t 3) (gI t 2).toNatClampNeg w k = upd (gA u 9) (gI u 10).toNatClampNeg w k) ∧ rI 0 1000 (upd (gA t 2) (gI t 2).toNatClampNeg v k) ∧ rI (-99) 99 (upd (gA t 3) (gI t 2).toNatClampNeg w k)
    rw [← h3]
    by_cases e : k = (gI t 2).toNatClampNeg
    · rw [e, upd_s, upd_s, upd_s, upd_s]; exact ⟨⟨rfl, rfl⟩, hv, hw⟩
    · rw [upd_n _ _ e, upd_n _ _ e, upd_n _ _ e, upd_n _ _ e]; exact h7 k hk
theorem val_r {c : Int32} {z : Int} (h0 : 0 ≤ z) (h1 : z ≤ 99) : rI (-99) 99 (if c = 43 then iI z else -iI z) := by
  by_cases e : c = 43
  · rw [if_pos e]; unfold rI; rw [iI_t ⟨by omega, by omega⟩]; omega
  · rw [if_neg e, iI_neg]; unfold rI; rw [iI_t ⟨by omega, by omega⟩]; omega
theorem lp_push {st mt : St} {len : Nat} (hlen : len ≤ 40) (hx : gI st 0 = iI len) (hm : gI mt 7 = iI len) (hg : ∀ k, k < 40 → gA st 0 k = gA mt 6 k) (hw : WF (gA st 0) len) : ∀ (N n i : Nat), n ≤ N → i + n = len → (sq (gA st 0) i = 0 ∨ sq (gA st 0) i = 3) → (i < len → ¬ (48 ≤ (gA st 0 i).toInt ∧ (gA st 0 i).toInt ≤ 57)) → ∀ (t u : St) (v : Int32), PL st mt t u i → 0 ≤ v.toInt → v.toInt ≤ 9 * i → ∃ t' u' : St, PL st mt t' u' len ∧ (∀ (post K : St → Prop), K t' → ∃ m, wp_X6_read_L14 post K m t v (iI i)) ∧ (∀ (post : Int32 → St → Prop) (K : St → Prop), K u' → ∃ m, wp_X11_push_L24 post K m u v (iI i)) := by
  intro N
  induction N with
  | zero =>
    intro n i hn hi hs hd t u v hpl hv1 hv2
    have e : i = len := by omega
    subst e
    refine ⟨t, u, hpl, fun post K hk => ⟨1, fun _ => hk, fun z => absurd ?_ z⟩, fun post K hk => ⟨1, fun _ => hk, fun z => absurd ?_ z⟩⟩
    · rw [hpl.1.1 0 (by decide), hx]; exact Int32.le_refl _
    · rw [hpl.2.1.1 7 (by decide), hm]; exact Int32.le_refl _
  | succ N ih =>
    intro n i hn hi hs hd t u v hpl hv1 hv2
    have hx' : gI t 0 = iI len := (hpl.1.1 0 (by decide)).trans hx
    have hm' : gI u 7 = iI len := (hpl.2.1.1 7 (by decide)).trans hm
    have gt : gA t 0 = gA st 0 := hpl.1.2 0 (by decide)
    have gu : ∀ k, k < 40 → gA u 6 k = gA st 0 k := fun k hk => by rw [hpl.2.1.2 6 (by decide)]; exact (hg k hk).symm
    by_cases hz : i = len
    · subst hz
      refine ⟨t, u, hpl, fun post K hk => ⟨1, fun _ => hk, fun z => absurd ?_ z⟩, fun post K hk => ⟨1, fun _ => hk, fun z => absurd ?_ z⟩⟩
      · rw [hx']; exact Int32.le_refl _
      · rw [hm']; exact Int32.le_refl _
    · have hil : i < len := by omega
      have hok := hw.1 (i + 1) (by omega)
      have hnd : ∀ k, k < len → sq (gA st 0) k = 0 → ¬ (48 ≤ (gA st 0 k).toInt ∧ (gA st 0 k).toInt ≤ 57) := fun k hk h0 => by
        refine nx0_d ?_
        have := hw.1 (k + 1) (by omega)
        rw [show sq (gA st 0) (k + 1) = nx (sq (gA st 0) k) (gA st 0 k) from rfl, h0] at this
        exact this
      have hi1 : ∀ q : Int32, sq (gA st 0) (i + 1) = q → (q = 1 ∨ q = 2) → i + 1 < len := fun q hq h12 => by
        rcases Nat.lt_or_ge (i + 1) len with z | z
        · exact z
        · have e : i + 1 = len := by omega
          rw [e] at hq
          rcases h12 with h | h
          · exact absurd (hq.trans h) hw.2.1
          · exact absurd (hq.trans h) hw.2.2
      have hcn : ∃ q : Nat, gI t 2 = iI q ∧ 2 * q ≤ i := hpl.2.2.2.2.1
      rcases nx0_nd hs hok (hd hil) with ⟨hc, hn1⟩ | ⟨hc, hc46, hn1⟩
      · -- a dot
        have h1l := hi1 1 hn1 (Or.inl rfl)
        have hok2 := hw.1 (i + 2) (by omega)
        have e2 : sq (gA st 0) (i + 2) = nx 1 (gA st 0 (i + 1)) := by
          show nx (sq (gA st 0) (i + 1)) (gA st 0 (i + 1)) = _
          rw [show sq (gA st 0) (i + 1) = 1 from hn1]
        have hd1 : 49 ≤ (gA st 0 (i + 1)).toInt ∧ (gA st 0 (i + 1)).toInt ≤ 57 := by
          by_cases z : 49 ≤ (gA st 0 (i + 1)).toInt ∧ (gA st 0 (i + 1)).toInt ≤ 57
          · exact z
          · rw [e2, nx1n z] at hok2; exact absurd rfl hok2
        have e3 : sq (gA st 0) (i + 2) = 0 := by rw [e2, nx1y hd1]
        have hv' : (v + iI ((gA st 0 (i + 1)).toInt - 48)).toInt = v.toInt + ((gA st 0 (i + 1)).toInt - 48) := by
          have hq : v + iI ((gA st 0 (i + 1)).toInt - 48) = iI (v.toInt + ((gA st 0 (i + 1)).toInt - 48)) := by rw [← iI_add, ← iI_of]
          rw [hq, iI_t ⟨by omega, by omega⟩]
        obtain ⟨t', u', hpl', hX, hM⟩ := ih (n - 2) (i + 2) (by omega) (by omega) (Or.inl e3) (fun q => hnd _ q e3) _ _ (v + iI ((gA st 0 (i + 1)).toInt - 48)) (pl_dot hpl) (by omega) (by omega)
        refine ⟨t', u', hpl', fun post K hk => ?_, fun post K hk => ?_⟩
        · obtain ⟨m, w⟩ := hX post K hk
          refine ⟨m + 2, xr_dot (nb := iI ((gA st 0 (i + 1)).toInt - 48)) hlen hx' hil (by rw [gt]; exact hc) (fun p hp => nb_1 (t := sI t 3 (gI t 3 + 1)) hlen hx' h1l ?_ ?_ ?_) (xr_d (t := sI t 3 (gI t 3 + 1)) hlen hx' h1l ?_ w)⟩
          · show 48 ≤ (gA t 0 (i + 1)).toInt ∧ (gA t 0 (i + 1)).toInt ≤ 57
            rw [gt]; omega
          · intro q
            show ¬ (48 ≤ (gA t 0 (i + 2)).toInt ∧ (gA t 0 (i + 2)).toInt ≤ 57)
            rw [gt]; exact hnd _ q e3
          · show p (iI ((gA t 0 (i + 1)).toInt - 48))
            rw [gt]; exact hp
          · show 48 ≤ (gA t 0 (i + 1)).toInt ∧ (gA t 0 (i + 1)).toInt ≤ 57
            rw [gt]; omega
        · obtain ⟨m, w⟩ := hM post K hk
          exact ⟨m + 1, mr_dot hlen hm' h1l (by rw [gu i (by omega)]; exact hc) (gu (i + 1) (by omega)) w⟩
      · -- a sign
        have h1l := hi1 2 hn1 (Or.inr rfl)
        have hok2 := hw.1 (i + 2) (by omega)
        have e2 : sq (gA st 0) (i + 2) = nx 2 (gA st 0 (i + 1)) := by
          show nx (sq (gA st 0) (i + 1)) (gA st 0 (i + 1)) = _
          rw [show sq (gA st 0) (i + 1) = 2 from hn1]
        have hd1 : 48 ≤ (gA st 0 (i + 1)).toInt ∧ (gA st 0 (i + 1)).toInt ≤ 57 := by
          by_cases z : 48 ≤ (gA st 0 (i + 1)).toInt ∧ (gA st 0 (i + 1)).toInt ≤ 57
          · exact z
          · rw [e2, nx2n z] at hok2; exact absurd rfl hok2
        have e3 : sq (gA st 0) (i + 2) = 3 := by rw [e2, nx2y hd1]
        have hvr : rI 0 1000 v := ⟨hv1, by omega⟩
        have hcx : ∃ q : Nat, gI t 2 = iI q ∧ q < 20 := by
          obtain ⟨q, h1, h2⟩ := hcn
          exact ⟨q, h1, by omega⟩
        have hcm : ∃ q : Nat, gI u 10 = iI q ∧ q < 20 := by
          obtain ⟨q, h1, h2⟩ := hcn
          exact ⟨q, by rw [← hpl.2.2.1]; exact h1, by omega⟩
        have g1 : gA u 6 (i + 1) = gA st 0 (i + 1) := gu _ (by omega)
        by_cases h2d : i + 2 < len ∧ (48 ≤ (gA st 0 (i + 2)).toInt ∧ (gA st 0 (i + 2)).toInt ≤ 57)
        · obtain ⟨h2l, hd2⟩ := h2d
          have g2 : gA u 6 (i + 2) = gA st 0 (i + 2) := gu _ (by omega)
          have e4 : sq (gA st 0) (i + 3) = 0 := by
            show nx (sq (gA st 0) (i + 2)) (gA st 0 (i + 2)) = 0
            rw [e3, nx3y hd2]
          obtain ⟨t', u', hpl', hX, hM⟩ := ih (n - 3) (i + 3) (by omega) (by omega) (Or.inl e4) (fun q => hnd _ q e4) _ _ v (pl_up (pl_sg hpl (by omega) hvr (val_r (c := gA st 0 i) (z := 10 * ((gA st 0 (i + 1)).toInt - 48) + ((gA st 0 (i + 2)).toInt - 48)) (by omega) (by omega))) (show i + 2 ≤ i + 3 by omega)) hv1 (by omega)
          refine ⟨t', u', hpl', fun post K hk => ?_, fun post K hk => ?_⟩
          · obtain ⟨m, w⟩ := hX post K hk
            refine ⟨m + 3, xr_sg (nb := iI (10 * ((gA st 0 (i + 1)).toInt - 48) + ((gA st 0 (i + 2)).toInt - 48))) hlen hx' hil (by rw [gt]) hc hcx (fun p hp => nb_2 (t := sI t 3 (gI t 3 + 1)) hlen hx' h2l ?_ ?_ ?_ ?_) (xr_d (t := X2 t v _) hlen hx' h1l ?_ (xr_d (t := X2 t v _) hlen hx' h2l ?_ w))⟩
            · show 48 ≤ (gA t 0 (i + 1)).toInt ∧ (gA t 0 (i + 1)).toInt ≤ 57
              rw [gt]; exact hd1
            · show 48 ≤ (gA t 0 (i + 2)).toInt ∧ (gA t 0 (i + 2)).toInt ≤ 57
              rw [gt]; exact hd2
            · intro q
              show ¬ (48 ≤ (gA t 0 (i + 3)).toInt ∧ (gA t 0 (i + 3)).toInt ≤ 57)
              rw [gt]; exact hnd _ q e4
            · show p (iI (10 * ((gA t 0 (i + 1)).toInt - 48) + ((gA t 0 (i + 2)).toInt - 48)))
              rw [gt]; exact hp
            · show 48 ≤ (gA t 0 (i + 1)).toInt ∧ (gA t 0 (i + 1)).toInt ≤ 57
              rw [gt]; exact hd1
            · show 48 ≤ (gA t 0 (i + 2)).toInt ∧ (gA t 0 (i + 2)).toInt ≤ 57
              rw [gt]; exact hd2
          · obtain ⟨m, w⟩ := hM post K hk
            refine ⟨m + 1, mr_sg hlen hm' h1l (gu i (by omega)) hc46 hcm (fun z => absurd ?_ (z h2l)) (fun _ _ => ?_)⟩
            · rw [g2]; exact hd2
            · rw [g1, g2]; exact w
        · obtain ⟨t', u', hpl', hX, hM⟩ := ih (n - 2) (i + 2) (by omega) (by omega) (Or.inr e3) (fun q z => h2d ⟨q, z⟩) _ _ v (pl_sg hpl (by omega) hvr (val_r (c := gA st 0 i) (z := (gA st 0 (i + 1)).toInt - 48) (by omega) (by omega))) hv1 (by omega)
          refine ⟨t', u', hpl', fun post K hk => ?_, fun post K hk => ?_⟩
          · obtain ⟨m, w⟩ := hX post K hk
            refine ⟨m + 2, xr_sg (nb := iI ((gA st 0 (i + 1)).toInt - 48)) hlen hx' hil (by rw [gt]) hc hcx (fun p hp => nb_1 (t := sI t 3 (gI t 3 + 1)) hlen hx' h1l ?_ ?_ ?_) (xr_d (t := X2 t v _) hlen hx' h1l ?_ w)⟩
            · show 48 ≤ (gA t 0 (i + 1)).toInt ∧ (gA t 0 (i + 1)).toInt ≤ 57
              rw [gt]; exact hd1
            · intro q
              show ¬ (48 ≤ (gA t 0 (i + 2)).toInt ∧ (gA t 0 (i + 2)).toInt ≤ 57)
              rw [gt]; exact fun z => h2d ⟨q, z⟩
            · show p (iI ((gA t 0 (i + 1)).toInt - 48))
              rw [gt]; exact hp
            · show 48 ≤ (gA t 0 (i + 1)).toInt ∧ (gA t 0 (i + 1)).toInt ≤ 57
              rw [gt]; exact hd1
          · obtain ⟨m, w⟩ := hM post K hk
            refine ⟨m + 1, mr_sg hlen hm' h1l (gu i (by omega)) hc46 hcm (fun _ => ?_) (fun q z => absurd ⟨q, ?_⟩ h2d)⟩
            · rw [g1]; exact w
            · rw [gu (i + 2) (by omega)] at z; exact z
theorem o_push (st mt : St) (j0 j1 : Option St) (h : LR st j0 j1 mt) : wp_X10_push st (fun r st' => wp_X11_push mt (fun r' mt' => r = r' ∧ LR st' j0 j1 mt')) := by
  have h' := h
  obtain ⟨⟨s1, s2, s3, s4, s5, s6, s7, s8, s9⟩, ⟨b1, b2, b3, b4, b5, b6, b7⟩, hp, hsn, hi⟩ := h
  obtain ⟨r, len, hlen, hx, hm, hwf, hpos, hX, hM⟩ := det_fault hp
  refine hX _ ⟨fun e => ?_, fun e => ?_⟩
  · have hw := hwf e
    have hpl0 : PL st mt (sI (sI st 2 0) 3 0) (sI (sI mt 10 0) 11 0) 0 := ⟨((FR.rf _ _ st).tr (FR.sI 2 _ (by decide))).tr (FR.sI 3 _ (by decide)), ((FR.rf _ _ mt).tr (FR.sI 10 _ (by decide))).tr (FR.sI 11 _ (by decide)), rfl, rfl, ⟨0, rfl, by omega⟩, fun k hk => ⟨s7 k hk, b5 k hk⟩⟩
    have hd0 : 0 < len → ¬ (48 ≤ (gA st 0 0).toInt ∧ (gA st 0 0).toInt ≤ 57) := fun q => nx0_d (hw.1 1 (by omega))
    obtain ⟨t', u', hpl, kX, kM⟩ := lp_push hlen hx hm hp.2.2 hw len len 0 (Nat.le_refl _) (by omega) (Or.inl rfl) hd0 _ _ 0 hpl0 (by decide) (by decide)
    refine kX _ _ ?_
    refine hM _ ⟨fun _ => kM _ _ ?_, fun z => absurd (by rw [e]; decide) z⟩
    obtain ⟨f1, f2, c1, c2, ⟨c, c3, c4⟩, c5⟩ := hpl
    refine ⟨c2, ⟨c1, c2, ?_, ?_, ?_, ?_, fun k hk => (c5 k hk).1, ?_, ?_⟩, ⟨?_, ?_, ?_, ?_, fun k hk => (c5 k hk).2, ?_, ?_⟩, ⟨rfl, (show rI 0 40 0 from ⟨by decide, by decide⟩), ?_⟩, ?_, ?_⟩
    · show gI t' 1 = gI u' 14
      rw [f1.1 1 (by decide), f2.1 14 (by decide)]; exact s3
    · show gI t' 4 = gI u' 27
      rw [f1.1 4 (by decide), f2.1 27 (by decide)]; exact s4
    · show gA t' 1 0 = gA u' 3 0 + 100
      rw [f1.2 1 (by decide), f2.2 3 (by decide)]; exact s5
    · show ∀ k, 0 < k → k < 5 → gA t' 1 k = gA u' 3 k
      rw [f1.2 1 (by decide), f2.2 3 (by decide)]; exact s6
    · show ∀ k, k < 8 → gA t' 6 k = gA u' 12 k ∧ gA t' 7 k = gA u' 13 k
      rw [f1.2 6 (by decide), f1.2 7 (by decide), f2.2 12 (by decide), f2.2 13 (by decide)]; exact s8
    · show ∀ k, k < 24 → gA t' 4 k = gA u' 25 k ∧ gA t' 5 k = gA u' 26 k
      rw [f1.2 4 (by decide), f1.2 5 (by decide), f2.2 25 (by decide), f2.2 26 (by decide)]; exact s9
    · show rI 0 20 (gI t' 2)
      rw [c3]; unfold rI; rw [iI_t ⟨by omega, by omega⟩]; omega
    · show rI 0 8 (gI t' 1)
      rw [f1.1 1 (by decide)]; exact b2
    · show rI 0 24 (gI t' 4)
      rw [f1.1 4 (by decide)]; exact b3
    · show ∀ k, k < 5 → rI (zL k).toInt (zM k).toInt (gA t' 1 k)
      rw [f1.2 1 (by decide)]; exact b4
    · show ∀ k, k < 8 → rI (-1000) 1000 (gA t' 6 k) ∧ rI (-1000) 1000 (gA t' 7 k)
      rw [f1.2 6 (by decide), f1.2 7 (by decide)]; exact b6
    · show ∀ k, k < 24 → rI (-2000) 2000 (gA t' 4 k) ∧ rI (-2000) 2000 (gA t' 5 k)
      rw [f1.2 4 (by decide), f1.2 5 (by decide)]; exact b7
    · show ∀ k, k < 40 → gA t' 0 k = gA u' 6 k
      rw [f1.2 0 (by decide), f2.2 6 (by decide)]; exact hp.2.2
    · show ∀ k, k < 24 → gA u' 0 k = zS k
      rw [f2.2 0 (by decide)]; exact hsn
    · show IR j0 (gA u' 31) (gA u' 32) 0 ∧ IR j1 (gA u' 31) (gA u' 32) 1
      rw [f2.2 31 (by decide), f2.2 32 (by decide)]; exact hi
  · refine hM _ ⟨fun z => ?_, fun _ => ⟨rfl, h'⟩⟩
    have z2 : r.toInt < 0 := Int32.lt_iff_toInt_lt.mp z
    have := hpos e
    omega
