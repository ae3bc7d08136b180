abbrev St : Type := (Nat → Int32) × (Nat → Int64) × (Nat → Nat → Int32) × (Nat → Nat → Int64)
def gI (s : St) (k : Nat) : Int32 := s.1 k
def gL (s : St) (k : Nat) : Int64 := s.2.1 k
def gA (s : St) (k : Nat) : Nat → Int32 := s.2.2.1 k
def gB (s : St) (k : Nat) : Nat → Int64 := s.2.2.2 k
def sI (s : St) (k : Nat) (v : Int32) : St := (va_up s.1 k v, s.2)
def sL (s : St) (k : Nat) (v : Int64) : St := (s.1, va_up s.2.1 k v, s.2.2)
def sA (s : St) (k : Nat) (v : Nat → Int32) : St := (s.1, s.2.1, va_up s.2.2.1 k v, s.2.2.2)
def sB (s : St) (k : Nat) (v : Nat → Int64) : St := (s.1, s.2.1, s.2.2.1, va_up s.2.2.2 k v)
def TY (cy : Nat → ClassId) : List (ClassId × FieldType) := [(cy 0, .int), (cy 1, .long), (cy 2, .boolean), (cy 3, .object RX7)]
def zS (j : Nat) : Int32 := [0, 2588, 5000, 7071, 8660, 9659, 10000, 9659, 8660, 7071, 5000, 2588, 0, -2588, -5000, -7071, -8660, -9659, -10000, -9659, -8660, -7071, -5000, -2588].getD j 0
def zL (j : Nat) : Int32 := [1, 0, 0, 0, 100].getD j 0
def zM (j : Nat) : Int32 := [199, 9, 200, 100, 1000].getD j 0
def zF (j : Nat) : Int32 := [110, 0, 30, 20, 500].getD j 0
def zz1 (tz : Nat → Nat) (A : Nat → Prop) (U : State) (H : Heap) : Prop := (va_Z RX9 "SINES" "[I" (.ref (tz 0)) A U H ∧ va_T .int (tz 0) 24 (fun j => .int (zS j)) A U H) ∧ (va_Z RX7 "LEAST" "[I" (.ref (tz 1)) A U H ∧ va_T .int (tz 1) 5 (fun j => .int (zL j)) A U H) ∧ (va_Z RX7 "MOST" "[I" (.ref (tz 2)) A U H ∧ va_T .int (tz 2) 5 (fun j => .int (zM j)) A U H) ∧ (va_Z RX7 "FIRST" "[I" (.ref (tz 3)) A U H ∧ va_T .int (tz 3) 5 (fun j => .int (zF j)) A U H)
def zz2 (U : State) : Prop := va_Nw (.methodLinkNest RX10 9 yX4_init RX10) U ∧ va_Nw (.methodLinkNest RX10 18 yX7_init RX10) U ∧ va_Nw (.methodLinkNest RX7 23 yX6_init RX10) U ∧ va_Nw (.methodLinkNest RX7 30 yX2_init RX10) U ∧ va_Nw (.methodLinkNest RX10 29 yX5_init RX10) U ∧ va_Nw (.methodLinkNest RX10 36 yX0_init RX10) U ∧ va_Nw (.methodLinkNest RX10 43 yX8_init RX10) U ∧ va_Nw (.methodLinkNest RX10 50 yX1_init RX10) U ∧ va_Nw (.methodLinkNest RX10 57 yX3_init RX10) U ∧ va_Nw (.methodLinkNest RX7 41 yX10_within RX10) U ∧ va_Nw (.castable "[I" "java/lang/Cloneable") U
def ZZ (tz : Nat → Nat) (A : Nat → Prop) (U : State) (H : Heap) : Prop := zz1 tz A U H ∧ zz2 U
theorem zz1.pass {tz : Nat → Nat} {A B : Nat → Prop} {s U : State} {H : Heap} {locs : List Loc} (h : zz1 tz A s s.heap) (hS : va_S A s.heap H locs) (hAB : ∀ q, B q → A q) (hU : U.heap = H) (hW : s.WarmedH U.vm) : zz1 tz B U U.heap := by
  subst hU
  obtain ⟨⟨a1, a2⟩, ⟨b1, b2⟩, ⟨c1, c2⟩, ⟨d1, d2⟩⟩ := h
  exact ⟨⟨((a1.kept hS.2.1).narrow hAB).moved hW.alike, ((a2.kept hS.2.1).narrow hAB).moved hW.alike⟩, ⟨((b1.kept hS.2.1).narrow hAB).moved hW.alike, ((b2.kept hS.2.1).narrow hAB).moved hW.alike⟩, ⟨((c1.kept hS.2.1).narrow hAB).moved hW.alike, ((c2.kept hS.2.1).narrow hAB).moved hW.alike⟩, ⟨((d1.kept hS.2.1).narrow hAB).moved hW.alike, ((d2.kept hS.2.1).narrow hAB).moved hW.alike⟩⟩
theorem zz2.pass {s U : State} (h : zz2 s) (hW : s.WarmedH U.vm) : zz2 U := by
  obtain ⟨a1, a2, a3, a4, a5, a6, a7, a8, a9, a10, a11⟩ := h
  exact ⟨a1.warmM hW, a2.warmM hW, a3.warmM hW, a4.warmM hW, a5.warmM hW, a6.warmM hW, a7.warmM hW, a8.warmM hW, a9.warmM hW, a10.warmM hW, a11.warmC hW⟩
theorem ZZ.pass {tz : Nat → Nat} {A B : Nat → Prop} {s U : State} {H : Heap} {locs : List Loc} (h : ZZ tz A s s.heap) (hS : va_S A s.heap H locs) (hAB : ∀ q, B q → A q) (hU : U.heap = H) (hW : s.WarmedH U.vm) : ZZ tz B U U.heap := ⟨h.1.pass hS hAB hU hW, h.2.pass hW⟩
theorem zz1.same {tz : Nat → Nat} {A : Nat → Prop} {U V : State} {H : Heap} (h : zz1 tz A U H) (e : U.vm = V.vm) : zz1 tz A V H := by
  have ha : U.vm.Alike V.vm := by rw [e]; exact Vm.Alike.refl _
  obtain ⟨⟨a1, a2⟩, ⟨b1, b2⟩, ⟨c1, c2⟩, ⟨d1, d2⟩⟩ := h
  exact ⟨⟨a1.moved ha, a2.moved ha⟩, ⟨b1.moved ha, b2.moved ha⟩, ⟨c1.moved ha, c2.moved ha⟩, ⟨d1.moved ha, d2.moved ha⟩⟩
theorem zz2.same {U V : State} (h : zz2 U) (e : U.vm = V.vm) : zz2 V := by
  obtain ⟨a1, a2, a3, a4, a5, a6, a7, a8, a9, a10, a11⟩ := h
  exact ⟨a1.same rfl e, a2.same rfl e, a3.same rfl e, a4.same rfl e, a5.same rfl e, a6.same rfl e, a7.same rfl e, a8.same rfl e, a9.same rfl e, a10.same rfl e, a11.same rfl e⟩
def Pre (D : va_G) (cy : Nat → ClassId) (tz : Nat → Nat) (w : va_W) (sz : Nat) (U : State) : Prop := U.heap.size = sz ∧ va_P D vwCl w U.heap ∧ va_K D vwCl (TY cy) U ∧ va_D (fun _ => True) w ∧ ZZ tz (va_A w sz) U U.heap
theorem Pre.blind {D : va_G} {cy : Nat → ClassId} {tz : Nat → Nat} {w : va_W} {sz : Nat} {av : List Value} : FrameBlind (va_Pc av (Pre D cy tz w sz)) := fun a U g mk h => ⟨h.1, h.2.1, h.2.2.1, va_K.moved (u := U) (U := U.calling g mk a) (Vm.Alike.refl U.vm) h.2.2.2.1, h.2.2.2.2.1, h.2.2.2.2.2.1.same rfl, h.2.2.2.2.2.2.same rfl⟩
def CtB {S : Type} (D : va_G) (w : va_W) (wf : S → va_W) (sz : Nat) (u : S) (t : State) : Prop := va_P D vwCl (wf u) t.heap ∧ va_D (va_A w sz) (wf u)
def CtI {S : Type} (l : Launch) (D : va_G) (cy : Nat → ClassId) (tz : Nat → Nat) (y : MethodName) (ws : List Cond) (rm : Room) (av : List Value) (w : va_W) (wf : S → va_W) (post : Int32 → S → Prop) : Prop := ∀ sz : Nat, Met l y ws rm (va_Pc av (Pre D cy tz w sz)) (va_Qi post (CtB D w wf sz) (va_A w sz)) rm.cells rm.slots (va_A w sz)
def CtL {S : Type} (l : Launch) (D : va_G) (cy : Nat → ClassId) (tz : Nat → Nat) (y : MethodName) (ws : List Cond) (rm : Room) (av : List Value) (w : va_W) (wf : S → va_W) (post : Int64 → S → Prop) : Prop := ∀ sz : Nat, Met l y ws rm (va_Pc av (Pre D cy tz w sz)) (va_Ql post (CtB D w wf sz) (va_A w sz)) rm.cells rm.slots (va_A w sz)
def CtV {S : Type} (l : Launch) (D : va_G) (cy : Nat → ClassId) (tz : Nat → Nat) (y : MethodName) (ws : List Cond) (rm : Room) (av : List Value) (w : va_W) (wf : S → va_W) (post : S → Prop) : Prop := ∀ sz : Nat, Met l y ws rm (va_Pc av (Pre D cy tz w sz)) (va_Qv post (CtB D w wf sz) (va_A w sz)) rm.cells rm.slots (va_A w sz)
def Bd (p : Program) (s : State) (m : MethodId) (args : Array Value) (meth : Method) (c : Code) (cc : ByteArray) (nL : Nat) (own nm : String) (tz : Nat → Nat) (A : Nat → Prop) (D : va_G) (cy : Nat → ClassId) : Prop := p.tables.exec = Jvm.exec ∧ c.code = cc ∧ c.maxLocals = nL ∧ s.vm.findClass own = some m.cls ∧ (∀ w ∈ wsL_law, w.before args s = true) ∧ va_K D vwCl (TY cy) s ∧ ZZ tz A s s.heap ∧ (∀ q, s.heap.size ≤ q → A q) ∧ meth.name = nm
theorem vin {i : Int32} {n : Nat} (h : (decide (i < 0) || decide (n ≤ i.toNatClampNeg)) = false) : vp_in i n := by
  simp only [Bool.or_eq_false_iff, decide_eq_false_iff_not] at h
  intro q
  rcases q with q | q
  · exact h.1 q
  · exact h.2 q
theorem narrow_b {v : Int32} (h : v &&& 1 = v) : narrow .boolean (.int v) = .int v := by simp [narrow, h]

theorem ofWF {l : Launch} {y : MethodName} {ws ws' : List Cond} {rm : Room} {Pc : Array Value → State → Prop} {Qc : Array Value → State → Outcome → State → Prop} {mc ms : Nat} {free : Addr → Prop} {cc : ByteArray} {maxL : Nat} {ret : Option FieldType}
    (hy : plainFor y = true) (hw : ws = Cond.code y cc maxL ret :: ws')
    (body : ∀ p e s m args below meth c s₁, BodyLoose p l y (headSpec ws rm) cc maxL ret e s m args below meth c s₁ → c.maxLocals = maxL → Pc args s →
      W p l e (headSpec ws rm).room s m args below meth c s.heap [] 0 0 (MQ below Qc args s mc ms free) (entryFrame m args maxL)) : Met l y ws rm Pc Qc mc ms free := by
  refine MetFree.of_bodySF (code := cc) (maxLocals := maxL) (ret := ret) hy ?_ ?_
  · intro args s m h hn
    obtain ⟨meth, c, h1, h2, h3, h4, h5, h6, -, -⟩ := Cond.code_spec hn (atoms_spec (ws := ws) h _ (by rw [hw]; exact List.mem_cons_self))
    exact ⟨meth, c, h1, h2, h3, h4, h5, h6⟩
  · intro p e s m args below meth c s₁ B hml hP _
    have hh0 : s₁.heap = s.heap := by rw [B.state]; rfl
    obtain ⟨t, a1, o, b1, b2, b3⟩ := body p e s m args below meth c s₁ B hml hP s₁ hh0 (Stand.of_body B)
    exact ⟨t, o, a1, b1, b2, ⟨b3.1, b3.2⟩⟩

theorem CtI.of {S : Type} {l : Launch} {D : va_G} {cy : Nat → ClassId} {tz : Nat → Nat} {y : MethodName} {rm : Room} {cc : ByteArray} {maxL : Nat} {rt : FieldType} {av : List Value} {w : va_W} {wf : S → va_W} {post : Int32 → S → Prop} {lv : List (Nat × Value)} {own nm : String} (hy : plainFor y = true) (ho : y.cls = own) (hnm : y.name = nm) (hlen : (lg_sl av).length ≤ maxL) (hlv : lv_args 0 av = lv)
    (body : ∀ (p : Program) (e : Env) (s : State) (m : MethodId) (args : Array Value) (below : List Frame) (meth : Method) (c : Code) (A : Nat → Prop) (Q : State → Prop) (ls : Array Slot), Bd p s m args meth c cc maxL own nm tz A D cy → va_P D vwCl w s.heap → va_D A w → va_S A s.heap s.heap [] → lv_has ls maxL lv →
      (∀ (r : Int32) (u : S) (H : Heap) (locs : List Loc) (pc : Nat) (ls : Array Slot), narrow rt (.int r) = .int r → post r u → va_P D vwCl (wf u) H → va_D A (wf u) → va_S A s.heap H locs → decode cc pc = .ok (.ireturn, 1) → W p l e rm s m args below meth c H locs rm.cells rm.slots Q (F0 m pc ls [.int r])) →
      W p l e rm s m args below meth c s.heap [] 0 0 Q (F0 m 0 ls [])) : CtI l D cy tz y (.code y cc maxL (some rt) :: wsL_law) rm av w wf post := by
  intro sz
  refine ofWF (cc := cc) (maxL := maxL) (ret := (some rt)) hy rfl ?_
  intro p e s m args below meth c s₁ B hml hv
  obtain ⟨rfl, hsz, hP, hK, hD0, hZ⟩ := hv
  have hts := atoms_spec (ws := .code y cc maxL (some rt) :: wsL_law) B.pre
  have hown : s.vm.findClass own = some m.cls := by rw [← ho]; exact findClass_of_methodNamed B.named
  have hn : meth.name = nm := by rw [← hnm]; exact (name_of_methodNamed B.named B.method).1
  have hr := B.returns
  have hlk := B.notSynchronized
  subst hsz
  have hl := lv_entry av (n := maxL) hlen
  rw [hlv] at hl
  rw [lg_entry_eq]
  refine body p e s m _ below meth c (va_A w s.heap.size) _ _ ⟨B.exec, B.bytes, hml, hown, fun w h => hts w (List.mem_cons_of_mem _ h), hK, hZ, fun q h => Or.inr h, hn⟩ hP (hD0.self) va_S.rf hl ?_
  intro r u H locs pc ls hn hp hP hD hS hdg
  exact W.zret B.exec B.bytes hr hn (fun t ht hW => ⟨⟨r, u, rfl, hp, by rw [ht]; exact hP, hD⟩, hS.F ht⟩) hS.2.2 hdg

theorem CtL.of {S : Type} {l : Launch} {D : va_G} {cy : Nat → ClassId} {tz : Nat → Nat} {y : MethodName} {rm : Room} {cc : ByteArray} {maxL : Nat} {av : List Value} {w : va_W} {wf : S → va_W} {post : Int64 → S → Prop} {lv : List (Nat × Value)} {own nm : String} (hy : plainFor y = true) (ho : y.cls = own) (hnm : y.name = nm) (hlen : (lg_sl av).length ≤ maxL) (hlv : lv_args 0 av = lv)
    (body : ∀ (p : Program) (e : Env) (s : State) (m : MethodId) (args : Array Value) (below : List Frame) (meth : Method) (c : Code) (A : Nat → Prop) (Q : State → Prop) (ls : Array Slot), Bd p s m args meth c cc maxL own nm tz A D cy → va_P D vwCl w s.heap → va_D A w → va_S A s.heap s.heap [] → lv_has ls maxL lv →
      (∀ (r : Int64) (u : S) (H : Heap) (locs : List Loc) (pc : Nat) (ls : Array Slot), post r u → va_P D vwCl (wf u) H → va_D A (wf u) → va_S A s.heap H locs → decode cc pc = .ok (.lreturn, 1) → W p l e rm s m args below meth c H locs rm.cells rm.slots Q (F0 m pc ls [.long r])) →
      W p l e rm s m args below meth c s.heap [] 0 0 Q (F0 m 0 ls [])) : CtL l D cy tz y (.code y cc maxL (some .long) :: wsL_law) rm av w wf post := by
  intro sz
  refine ofWF (cc := cc) (maxL := maxL) (ret := (some .long)) hy rfl ?_
  intro p e s m args below meth c s₁ B hml hv
  obtain ⟨rfl, hsz, hP, hK, hD0, hZ⟩ := hv
  have hts := atoms_spec (ws := .code y cc maxL (some .long) :: wsL_law) B.pre
  have hown : s.vm.findClass own = some m.cls := by rw [← ho]; exact findClass_of_methodNamed B.named
  have hn : meth.name = nm := by rw [← hnm]; exact (name_of_methodNamed B.named B.method).1
  have hr := B.returns
  have hlk := B.notSynchronized
  subst hsz
  have hl := lv_entry av (n := maxL) hlen
  rw [hlv] at hl
  rw [lg_entry_eq]
  refine body p e s m _ below meth c (va_A w s.heap.size) _ _ ⟨B.exec, B.bytes, hml, hown, fun w h => hts w (List.mem_cons_of_mem _ h), hK, hZ, fun q h => Or.inr h, hn⟩ hP (hD0.self) va_S.rf hl ?_
  intro r u H locs pc ls hp hP hD hS hdg
  exact W.lret B.exec B.bytes hr (fun t ht hW => ⟨⟨r, u, rfl, hp, by rw [ht]; exact hP, hD⟩, hS.F ht⟩) hS.2.2 hdg

theorem CtV.of {S : Type} {l : Launch} {D : va_G} {cy : Nat → ClassId} {tz : Nat → Nat} {y : MethodName} {rm : Room} {cc : ByteArray} {maxL : Nat} {av : List Value} {w : va_W} {wf : S → va_W} {post : S → Prop} {lv : List (Nat × Value)} {own nm : String} (hy : plainFor y = true) (ho : y.cls = own) (hnm : y.name = nm) (hlen : (lg_sl av).length ≤ maxL) (hlv : lv_args 0 av = lv)
    (body : ∀ (p : Program) (e : Env) (s : State) (m : MethodId) (args : Array Value) (below : List Frame) (meth : Method) (c : Code) (A : Nat → Prop) (Q : State → Prop) (ls : Array Slot), Bd p s m args meth c cc maxL own nm tz A D cy → va_P D vwCl w s.heap → va_D A w → va_S A s.heap s.heap [] → lv_has ls maxL lv →
      (∀ (u : S) (H : Heap) (locs : List Loc) (pc : Nat) (ls : Array Slot), post u → va_P D vwCl (wf u) H → va_D A (wf u) → va_S A s.heap H locs → decode cc pc = .ok (.return_, 1) → W p l e rm s m args below meth c H locs rm.cells rm.slots Q (F0 m pc ls [])) →
      W p l e rm s m args below meth c s.heap [] 0 0 Q (F0 m 0 ls [])) : CtV l D cy tz y (.code y cc maxL none :: wsL_law) rm av w wf post := by
  intro sz
  refine ofWF (cc := cc) (maxL := maxL) (ret := none) hy rfl ?_
  intro p e s m args below meth c s₁ B hml hv
  obtain ⟨rfl, hsz, hP, hK, hD0, hZ⟩ := hv
  have hts := atoms_spec (ws := .code y cc maxL none :: wsL_law) B.pre
  have hown : s.vm.findClass own = some m.cls := by rw [← ho]; exact findClass_of_methodNamed B.named
  have hn : meth.name = nm := by rw [← hnm]; exact (name_of_methodNamed B.named B.method).1
  have hr := B.returns
  have hlk := B.notSynchronized
  subst hsz
  have hl := lv_entry av (n := maxL) hlen
  rw [hlv] at hl
  rw [lg_entry_eq]
  refine body p e s m _ below meth c (va_A w s.heap.size) _ _ ⟨B.exec, B.bytes, hml, hown, fun w h => hts w (List.mem_cons_of_mem _ h), hK, hZ, fun q h => Or.inr h, hn⟩ hP (hD0.self) va_S.rf hl ?_
  intro u H locs pc ls hp hP hD hS hdg
  exact W.vret B.exec B.bytes hr (fun t ht hW => ⟨⟨u, rfl, hp, by rw [ht]; exact hP, hD⟩, hS.F ht⟩) hS.2.2 hdg

section CC
variable {p : Program} {l : Launch} {e : Env} {R : Room} {s : State} {m : MethodId} {args : Array Value} {below : List Frame} {meth : Method} {c : Code} {H : Heap} {locs : List Loc} {cells slots : Nat} {Q : State → Prop}
variable {cc bytes : ByteArray} {nL maxL index n : Nat} {own C host : String} {y : MethodName} {ret : Option FieldType} {ws : List Cond} {rm : Room} {b : Addr} {As rest st0 : List Value} {pc : Nat} {ls : Array Slot}
variable {D : va_G} {cy : Nat → ClassId} {tz : Nat → Nat} {A : Nat → Prop} {w : va_W}
theorem fr_of (hD : va_D A w) (hS : va_S A s.heap H locs) (hA : ∀ q, s.heap.size ≤ q → A q) : ∀ q, va_A w H.size q → A q := fun q h => by
  rcases h with ⟨k, x, hk⟩ | h
  · exact hD.2 k _ hk
  · exact hA q (Nat.le_trans hS.1 h)
theorem preS (hK : va_K D vwCl (TY cy) s) (hZ : ZZ tz A s s.heap) (hA : ∀ q, s.heap.size ≤ q → A q) (hP : va_P D vwCl w H) (hD : va_D A w) (hS : va_S A s.heap H locs) : PreS s H (va_Pc As (Pre D cy tz w H.size)) As :=
  ⟨Pre.blind, fun U hU hW => ⟨rfl, by rw [hU], by rw [hU]; exact hP, va_K.moved hW.alike hK, hD.weaken (fun _ _ _ _ => trivial), hZ.pass hS (fr_of hD hS hA) hU hW⟩⟩
theorem preV (hv : ∃ cell : Cell, H[b]? = some cell ∧ cell.vm.isStatics = false ∧ s.vm.findClass C = some cell.cls) (hK : va_K D vwCl (TY cy) s) (hZ : ZZ tz A s s.heap) (hA : ∀ q, s.heap.size ≤ q → A q) (hP : va_P D vwCl w H) (hD : va_D A w) (hS : va_S A s.heap H locs) : PreV s H C b (va_Pc (.ref b :: As) (Pre D cy tz w H.size)) As :=
  ⟨Pre.blind, hv, fun U hU hW => ⟨rfl, by rw [hU], by rw [hU]; exact hP, va_K.moved hW.alike hK, hD.weaken (fun _ _ _ _ => trivial), hZ.pass hS (fr_of hD hS hA) hU hW⟩⟩

theorem callVIr {post : Int32 → Prop} (SF : CallFix p m c cc nL s args wsL_law own) (hM : CtI l D cy tz y ws rm (.ref b :: As) w (fun _ : Unit => w) (fun r _ => post r)) (cw : CallW R s args own C index y bytes maxL ret ws rm rm.cells rm.slots n) (h0 : rm.cells = 0) (h1 : rm.slots = 0) (hv : ∃ cell : Cell, H[b]? = some cell ∧ cell.vm.isStatics = false ∧ s.vm.findClass C = some cell.cls) (hK : va_K D vwCl (TY cy) s) (hZ : ZZ tz A s s.heap) (hA : ∀ q, s.heap.size ≤ q → A q) (hP : va_P D vwCl w H) (hD : va_D A w) (hS : va_S A s.heap H locs) (hn : As.length = n) (hsize : ls.size = nL) (hst : st0 = As.reverse ++ .ref b :: rest) (hroom : (rest.map fun v => v.category).sum ≤ 8) (hdg : decode cc pc = .ok (.invokevirtual index, 3)) (hf : cells ≤ R.cells ∧ slots ≤ R.slots)
    (kk : ∀ (r : Int32) (H1 : Heap) (locs1 : List Loc), post r → va_P D vwCl w H1 → va_D A w → va_S A s.heap H1 locs1 → W p l e R s m args below meth c H1 locs1 cells slots Q (F0 m (pc + 3) ls (.int r :: rest))) : W p l e R s m args below meth c H locs cells slots Q (F0 m pc ls st0) := by
  subst hst
  have hFc := fr_of hD hS hA
  refine va_calli (va_runV SF (hM H.size) cw (preV hv hK hZ hA hP hD hS) rfl hn hsize rfl (lv_room hroom) hdg (by rw [h0, h1]; exact hf)) hS (fun q _ h => hFc q h) hFc (fun r u t H1 locs1 ht hvm hw hB hz1 hk1 hS1 => ?_)
  rw [h0, h1]
  obtain ⟨hP1, hD1⟩ := hB
  rw [ht] at hP1
  exact kk r H1 locs1 hw hP1 (hD1.weaken (fun _ q _ h => hFc q.1 h)) hS1

theorem callVI {S : Type} {wf : S → va_W} {post : Int32 → S → Prop} (SF : CallFix p m c cc nL s args wsL_law own) (hM : CtI l D cy tz y ws rm (.ref b :: As) w wf post) (cw : CallW R s args own C index y bytes maxL ret ws rm rm.cells rm.slots n) (h0 : rm.cells = 0) (h1 : rm.slots = 0) (hv : ∃ cell : Cell, H[b]? = some cell ∧ cell.vm.isStatics = false ∧ s.vm.findClass C = some cell.cls) (hK : va_K D vwCl (TY cy) s) (hZ : ZZ tz A s s.heap) (hA : ∀ q, s.heap.size ≤ q → A q) (hP : va_P D vwCl w H) (hD : va_D A w) (hS : va_S A s.heap H locs) (hn : As.length = n) (hsize : ls.size = nL) (hst : st0 = As.reverse ++ .ref b :: rest) (hroom : (rest.map fun v => v.category).sum ≤ 8) (hdg : decode cc pc = .ok (.invokevirtual index, 3)) (hf : cells ≤ R.cells ∧ slots ≤ R.slots)
    (kk : ∀ (r : Int32) (u : S) (H1 : Heap) (locs1 : List Loc), post r u → va_P D vwCl (wf u) H1 → va_D A (wf u) → va_S A s.heap H1 locs1 → W p l e R s m args below meth c H1 locs1 cells slots Q (F0 m (pc + 3) ls (.int r :: rest))) : W p l e R s m args below meth c H locs cells slots Q (F0 m pc ls st0) := by
  subst hst
  have hFc := fr_of hD hS hA
  refine va_calli (va_runV SF (hM H.size) cw (preV hv hK hZ hA hP hD hS) rfl hn hsize rfl (lv_room hroom) hdg (by rw [h0, h1]; exact hf)) hS (fun q _ h => hFc q h) hFc (fun r u t H1 locs1 ht hvm hw hB hz1 hk1 hS1 => ?_)
  rw [h0, h1]
  obtain ⟨hP1, hD1⟩ := hB
  rw [ht] at hP1
  exact kk r u H1 locs1 hw hP1 (hD1.weaken (fun _ q _ h => hFc q.1 h)) hS1

theorem callVLr {post : Int64 → Prop} (SF : CallFix p m c cc nL s args wsL_law own) (hM : CtL l D cy tz y ws rm (.ref b :: As) w (fun _ : Unit => w) (fun r _ => post r)) (cw : CallW R s args own C index y bytes maxL ret ws rm rm.cells rm.slots n) (h0 : rm.cells = 0) (h1 : rm.slots = 0) (hv : ∃ cell : Cell, H[b]? = some cell ∧ cell.vm.isStatics = false ∧ s.vm.findClass C = some cell.cls) (hK : va_K D vwCl (TY cy) s) (hZ : ZZ tz A s s.heap) (hA : ∀ q, s.heap.size ≤ q → A q) (hP : va_P D vwCl w H) (hD : va_D A w) (hS : va_S A s.heap H locs) (hn : As.length = n) (hsize : ls.size = nL) (hst : st0 = As.reverse ++ .ref b :: rest) (hroom : (rest.map fun v => v.category).sum ≤ 8) (hdg : decode cc pc = .ok (.invokevirtual index, 3)) (hf : cells ≤ R.cells ∧ slots ≤ R.slots)
    (kk : ∀ (r : Int64) (H1 : Heap) (locs1 : List Loc), post r → va_P D vwCl w H1 → va_D A w → va_S A s.heap H1 locs1 → W p l e R s m args below meth c H1 locs1 cells slots Q (F0 m (pc + 3) ls (.long r :: rest))) : W p l e R s m args below meth c H locs cells slots Q (F0 m pc ls st0) := by
  subst hst
  have hFc := fr_of hD hS hA
  refine va_calll (va_runV SF (hM H.size) cw (preV hv hK hZ hA hP hD hS) rfl hn hsize rfl (lv_room hroom) hdg (by rw [h0, h1]; exact hf)) hS (fun q _ h => hFc q h) hFc (fun r u t H1 locs1 ht hvm hw hB hz1 hk1 hS1 => ?_)
  rw [h0, h1]
  obtain ⟨hP1, hD1⟩ := hB
  rw [ht] at hP1
  exact kk r H1 locs1 hw hP1 (hD1.weaken (fun _ q _ h => hFc q.1 h)) hS1

theorem callVL {S : Type} {wf : S → va_W} {post : Int64 → S → Prop} (SF : CallFix p m c cc nL s args wsL_law own) (hM : CtL l D cy tz y ws rm (.ref b :: As) w wf post) (cw : CallW R s args own C index y bytes maxL ret ws rm rm.cells rm.slots n) (h0 : rm.cells = 0) (h1 : rm.slots = 0) (hv : ∃ cell : Cell, H[b]? = some cell ∧ cell.vm.isStatics = false ∧ s.vm.findClass C = some cell.cls) (hK : va_K D vwCl (TY cy) s) (hZ : ZZ tz A s s.heap) (hA : ∀ q, s.heap.size ≤ q → A q) (hP : va_P D vwCl w H) (hD : va_D A w) (hS : va_S A s.heap H locs) (hn : As.length = n) (hsize : ls.size = nL) (hst : st0 = As.reverse ++ .ref b :: rest) (hroom : (rest.map fun v => v.category).sum ≤ 8) (hdg : decode cc pc = .ok (.invokevirtual index, 3)) (hf : cells ≤ R.cells ∧ slots ≤ R.slots)
    (kk : ∀ (r : Int64) (u : S) (H1 : Heap) (locs1 : List Loc), post r u → va_P D vwCl (wf u) H1 → va_D A (wf u) → va_S A s.heap H1 locs1 → W p l e R s m args below meth c H1 locs1 cells slots Q (F0 m (pc + 3) ls (.long r :: rest))) : W p l e R s m args below meth c H locs cells slots Q (F0 m pc ls st0) := by
  subst hst
  have hFc := fr_of hD hS hA
  refine va_calll (va_runV SF (hM H.size) cw (preV hv hK hZ hA hP hD hS) rfl hn hsize rfl (lv_room hroom) hdg (by rw [h0, h1]; exact hf)) hS (fun q _ h => hFc q h) hFc (fun r u t H1 locs1 ht hvm hw hB hz1 hk1 hS1 => ?_)
  rw [h0, h1]
  obtain ⟨hP1, hD1⟩ := hB
  rw [ht] at hP1
  exact kk r u H1 locs1 hw hP1 (hD1.weaken (fun _ q _ h => hFc q.1 h)) hS1

theorem callVVr {post : Prop} (SF : CallFix p m c cc nL s args wsL_law own) (hM : CtV l D cy tz y ws rm (.ref b :: As) w (fun _ : Unit => w) (fun _ => post)) (cw : CallW R s args own C index y bytes maxL ret ws rm rm.cells rm.slots n) (h0 : rm.cells = 0) (h1 : rm.slots = 0) (hv : ∃ cell : Cell, H[b]? = some cell ∧ cell.vm.isStatics = false ∧ s.vm.findClass C = some cell.cls) (hK : va_K D vwCl (TY cy) s) (hZ : ZZ tz A s s.heap) (hA : ∀ q, s.heap.size ≤ q → A q) (hP : va_P D vwCl w H) (hD : va_D A w) (hS : va_S A s.heap H locs) (hn : As.length = n) (hsize : ls.size = nL) (hst : st0 = As.reverse ++ .ref b :: rest) (hroom : (rest.map fun v => v.category).sum ≤ 8) (hdg : decode cc pc = .ok (.invokevirtual index, 3)) (hf : cells ≤ R.cells ∧ slots ≤ R.slots)
    (kk : ∀ (H1 : Heap) (locs1 : List Loc), post → va_P D vwCl w H1 → va_D A w → va_S A s.heap H1 locs1 → W p l e R s m args below meth c H1 locs1 cells slots Q (F0 m (pc + 3) ls (rest))) : W p l e R s m args below meth c H locs cells slots Q (F0 m pc ls st0) := by
  subst hst
  have hFc := fr_of hD hS hA
  refine va_callv (va_runV SF (hM H.size) cw (preV hv hK hZ hA hP hD hS) rfl hn hsize rfl (lv_room hroom) hdg (by rw [h0, h1]; exact hf)) hS (fun q _ h => hFc q h) hFc (fun u t H1 locs1 ht hvm hw hB hz1 hk1 hS1 => ?_)
  rw [h0, h1]
  obtain ⟨hP1, hD1⟩ := hB
  rw [ht] at hP1
  exact kk  H1 locs1 hw hP1 (hD1.weaken (fun _ q _ h => hFc q.1 h)) hS1

theorem callVV {S : Type} {wf : S → va_W} {post : S → Prop} (SF : CallFix p m c cc nL s args wsL_law own) (hM : CtV l D cy tz y ws rm (.ref b :: As) w wf post) (cw : CallW R s args own C index y bytes maxL ret ws rm rm.cells rm.slots n) (h0 : rm.cells = 0) (h1 : rm.slots = 0) (hv : ∃ cell : Cell, H[b]? = some cell ∧ cell.vm.isStatics = false ∧ s.vm.findClass C = some cell.cls) (hK : va_K D vwCl (TY cy) s) (hZ : ZZ tz A s s.heap) (hA : ∀ q, s.heap.size ≤ q → A q) (hP : va_P D vwCl w H) (hD : va_D A w) (hS : va_S A s.heap H locs) (hn : As.length = n) (hsize : ls.size = nL) (hst : st0 = As.reverse ++ .ref b :: rest) (hroom : (rest.map fun v => v.category).sum ≤ 8) (hdg : decode cc pc = .ok (.invokevirtual index, 3)) (hf : cells ≤ R.cells ∧ slots ≤ R.slots)
    (kk : ∀ (u : S) (H1 : Heap) (locs1 : List Loc), post u → va_P D vwCl (wf u) H1 → va_D A (wf u) → va_S A s.heap H1 locs1 → W p l e R s m args below meth c H1 locs1 cells slots Q (F0 m (pc + 3) ls (rest))) : W p l e R s m args below meth c H locs cells slots Q (F0 m pc ls st0) := by
  subst hst
  have hFc := fr_of hD hS hA
  refine va_callv (va_runV SF (hM H.size) cw (preV hv hK hZ hA hP hD hS) rfl hn hsize rfl (lv_room hroom) hdg (by rw [h0, h1]; exact hf)) hS (fun q _ h => hFc q h) hFc (fun u t H1 locs1 ht hvm hw hB hz1 hk1 hS1 => ?_)
  rw [h0, h1]
  obtain ⟨hP1, hD1⟩ := hB
  rw [ht] at hP1
  exact kk  u H1 locs1 hw hP1 (hD1.weaken (fun _ q _ h => hFc q.1 h)) hS1

theorem callSIr {post : Int32 → Prop} (SF : CallFix p m c cc nL s args wsL_law own) (hM : CtI l D cy tz y ws rm As w (fun _ : Unit => w) (fun r _ => post r)) (cw : CallB R s args own index y bytes maxL ret ws rm rm.cells rm.slots n ∧ (Cond.static y).before args s = true) (h0 : rm.cells = 0) (h1 : rm.slots = 0) (hK : va_K D vwCl (TY cy) s) (hZ : ZZ tz A s s.heap) (hA : ∀ q, s.heap.size ≤ q → A q) (hP : va_P D vwCl w H) (hD : va_D A w) (hS : va_S A s.heap H locs) (hn : As.length = n) (hsize : ls.size = nL) (hst : st0 = As.reverse ++ rest) (hroom : (rest.map fun v => v.category).sum ≤ 8) (hdg : decode cc pc = .ok (.invokestatic index, 3)) (hf : cells ≤ R.cells ∧ slots ≤ R.slots)
    (kk : ∀ (r : Int32) (H1 : Heap) (locs1 : List Loc), post r → va_P D vwCl w H1 → va_D A w → va_S A s.heap H1 locs1 → W p l e R s m args below meth c H1 locs1 cells slots Q (F0 m (pc + 3) ls (.int r :: rest))) : W p l e R s m args below meth c H locs cells slots Q (F0 m pc ls st0) := by
  subst hst
  have hFc := fr_of hD hS hA
  refine va_calli (va_runS SF (hM H.size) cw (preS hK hZ hA hP hD hS) rfl hn hsize rfl (lv_room hroom) hdg (by rw [h0, h1]; exact hf)) hS (fun q _ h => hFc q h) hFc (fun r u t H1 locs1 ht hvm hw hB hz1 hk1 hS1 => ?_)
  rw [h0, h1]
  obtain ⟨hP1, hD1⟩ := hB
  rw [ht] at hP1
  exact kk r H1 locs1 hw hP1 (hD1.weaken (fun _ q _ h => hFc q.1 h)) hS1

theorem callSI {S : Type} {wf : S → va_W} {post : Int32 → S → Prop} (SF : CallFix p m c cc nL s args wsL_law own) (hM : CtI l D cy tz y ws rm As w wf post) (cw : CallB R s args own index y bytes maxL ret ws rm rm.cells rm.slots n ∧ (Cond.static y).before args s = true) (h0 : rm.cells = 0) (h1 : rm.slots = 0) (hK : va_K D vwCl (TY cy) s) (hZ : ZZ tz A s s.heap) (hA : ∀ q, s.heap.size ≤ q → A q) (hP : va_P D vwCl w H) (hD : va_D A w) (hS : va_S A s.heap H locs) (hn : As.length = n) (hsize : ls.size = nL) (hst : st0 = As.reverse ++ rest) (hroom : (rest.map fun v => v.category).sum ≤ 8) (hdg : decode cc pc = .ok (.invokestatic index, 3)) (hf : cells ≤ R.cells ∧ slots ≤ R.slots)
    (kk : ∀ (r : Int32) (u : S) (H1 : Heap) (locs1 : List Loc), post r u → va_P D vwCl (wf u) H1 → va_D A (wf u) → va_S A s.heap H1 locs1 → W p l e R s m args below meth c H1 locs1 cells slots Q (F0 m (pc + 3) ls (.int r :: rest))) : W p l e R s m args below meth c H locs cells slots Q (F0 m pc ls st0) := by
  subst hst
  have hFc := fr_of hD hS hA
  refine va_calli (va_runS SF (hM H.size) cw (preS hK hZ hA hP hD hS) rfl hn hsize rfl (lv_room hroom) hdg (by rw [h0, h1]; exact hf)) hS (fun q _ h => hFc q h) hFc (fun r u t H1 locs1 ht hvm hw hB hz1 hk1 hS1 => ?_)
  rw [h0, h1]
  obtain ⟨hP1, hD1⟩ := hB
  rw [ht] at hP1
  exact kk r u H1 locs1 hw hP1 (hD1.weaken (fun _ q _ h => hFc q.1 h)) hS1

theorem callSLr {post : Int64 → Prop} (SF : CallFix p m c cc nL s args wsL_law own) (hM : CtL l D cy tz y ws rm As w (fun _ : Unit => w) (fun r _ => post r)) (cw : CallB R s args own index y bytes maxL ret ws rm rm.cells rm.slots n ∧ (Cond.static y).before args s = true) (h0 : rm.cells = 0) (h1 : rm.slots = 0) (hK : va_K D vwCl (TY cy) s) (hZ : ZZ tz A s s.heap) (hA : ∀ q, s.heap.size ≤ q → A q) (hP : va_P D vwCl w H) (hD : va_D A w) (hS : va_S A s.heap H locs) (hn : As.length = n) (hsize : ls.size = nL) (hst : st0 = As.reverse ++ rest) (hroom : (rest.map fun v => v.category).sum ≤ 8) (hdg : decode cc pc = .ok (.invokestatic index, 3)) (hf : cells ≤ R.cells ∧ slots ≤ R.slots)
    (kk : ∀ (r : Int64) (H1 : Heap) (locs1 : List Loc), post r → va_P D vwCl w H1 → va_D A w → va_S A s.heap H1 locs1 → W p l e R s m args below meth c H1 locs1 cells slots Q (F0 m (pc + 3) ls (.long r :: rest))) : W p l e R s m args below meth c H locs cells slots Q (F0 m pc ls st0) := by
  subst hst
  have hFc := fr_of hD hS hA
  refine va_calll (va_runS SF (hM H.size) cw (preS hK hZ hA hP hD hS) rfl hn hsize rfl (lv_room hroom) hdg (by rw [h0, h1]; exact hf)) hS (fun q _ h => hFc q h) hFc (fun r u t H1 locs1 ht hvm hw hB hz1 hk1 hS1 => ?_)
  rw [h0, h1]
  obtain ⟨hP1, hD1⟩ := hB
  rw [ht] at hP1
  exact kk r H1 locs1 hw hP1 (hD1.weaken (fun _ q _ h => hFc q.1 h)) hS1

theorem callSL {S : Type} {wf : S → va_W} {post : Int64 → S → Prop} (SF : CallFix p m c cc nL s args wsL_law own) (hM : CtL l D cy tz y ws rm As w wf post) (cw : CallB R s args own index y bytes maxL ret ws rm rm.cells rm.slots n ∧ (Cond.static y).before args s = true) (h0 : rm.cells = 0) (h1 : rm.slots = 0) (hK : va_K D vwCl (TY cy) s) (hZ : ZZ tz A s s.heap) (hA : ∀ q, s.heap.size ≤ q → A q) (hP : va_P D vwCl w H) (hD : va_D A w) (hS : va_S A s.heap H locs) (hn : As.length = n) (hsize : ls.size = nL) (hst : st0 = As.reverse ++ rest) (hroom : (rest.map fun v => v.category).sum ≤ 8) (hdg : decode cc pc = .ok (.invokestatic index, 3)) (hf : cells ≤ R.cells ∧ slots ≤ R.slots)
    (kk : ∀ (r : Int64) (u : S) (H1 : Heap) (locs1 : List Loc), post r u → va_P D vwCl (wf u) H1 → va_D A (wf u) → va_S A s.heap H1 locs1 → W p l e R s m args below meth c H1 locs1 cells slots Q (F0 m (pc + 3) ls (.long r :: rest))) : W p l e R s m args below meth c H locs cells slots Q (F0 m pc ls st0) := by
  subst hst
  have hFc := fr_of hD hS hA
  refine va_calll (va_runS SF (hM H.size) cw (preS hK hZ hA hP hD hS) rfl hn hsize rfl (lv_room hroom) hdg (by rw [h0, h1]; exact hf)) hS (fun q _ h => hFc q h) hFc (fun r u t H1 locs1 ht hvm hw hB hz1 hk1 hS1 => ?_)
  rw [h0, h1]
  obtain ⟨hP1, hD1⟩ := hB
  rw [ht] at hP1
  exact kk r u H1 locs1 hw hP1 (hD1.weaken (fun _ q _ h => hFc q.1 h)) hS1

theorem callSVr {post : Prop} (SF : CallFix p m c cc nL s args wsL_law own) (hM : CtV l D cy tz y ws rm As w (fun _ : Unit => w) (fun _ => post)) (cw : CallB R s args own index y bytes maxL ret ws rm rm.cells rm.slots n ∧ (Cond.static y).before args s = true) (h0 : rm.cells = 0) (h1 : rm.slots = 0) (hK : va_K D vwCl (TY cy) s) (hZ : ZZ tz A s s.heap) (hA : ∀ q, s.heap.size ≤ q → A q) (hP : va_P D vwCl w H) (hD : va_D A w) (hS : va_S A s.heap H locs) (hn : As.length = n) (hsize : ls.size = nL) (hst : st0 = As.reverse ++ rest) (hroom : (rest.map fun v => v.category).sum ≤ 8) (hdg : decode cc pc = .ok (.invokestatic index, 3)) (hf : cells ≤ R.cells ∧ slots ≤ R.slots)
    (kk : ∀ (H1 : Heap) (locs1 : List Loc), post → va_P D vwCl w H1 → va_D A w → va_S A s.heap H1 locs1 → W p l e R s m args below meth c H1 locs1 cells slots Q (F0 m (pc + 3) ls (rest))) : W p l e R s m args below meth c H locs cells slots Q (F0 m pc ls st0) := by
  subst hst
  have hFc := fr_of hD hS hA
  refine va_callv (va_runS SF (hM H.size) cw (preS hK hZ hA hP hD hS) rfl hn hsize rfl (lv_room hroom) hdg (by rw [h0, h1]; exact hf)) hS (fun q _ h => hFc q h) hFc (fun u t H1 locs1 ht hvm hw hB hz1 hk1 hS1 => ?_)
  rw [h0, h1]
  obtain ⟨hP1, hD1⟩ := hB
  rw [ht] at hP1
  exact kk  H1 locs1 hw hP1 (hD1.weaken (fun _ q _ h => hFc q.1 h)) hS1

theorem callSV {S : Type} {wf : S → va_W} {post : S → Prop} (SF : CallFix p m c cc nL s args wsL_law own) (hM : CtV l D cy tz y ws rm As w wf post) (cw : CallB R s args own index y bytes maxL ret ws rm rm.cells rm.slots n ∧ (Cond.static y).before args s = true) (h0 : rm.cells = 0) (h1 : rm.slots = 0) (hK : va_K D vwCl (TY cy) s) (hZ : ZZ tz A s s.heap) (hA : ∀ q, s.heap.size ≤ q → A q) (hP : va_P D vwCl w H) (hD : va_D A w) (hS : va_S A s.heap H locs) (hn : As.length = n) (hsize : ls.size = nL) (hst : st0 = As.reverse ++ rest) (hroom : (rest.map fun v => v.category).sum ≤ 8) (hdg : decode cc pc = .ok (.invokestatic index, 3)) (hf : cells ≤ R.cells ∧ slots ≤ R.slots)
    (kk : ∀ (u : S) (H1 : Heap) (locs1 : List Loc), post u → va_P D vwCl (wf u) H1 → va_D A (wf u) → va_S A s.heap H1 locs1 → W p l e R s m args below meth c H1 locs1 cells slots Q (F0 m (pc + 3) ls (rest))) : W p l e R s m args below meth c H locs cells slots Q (F0 m pc ls st0) := by
  subst hst
  have hFc := fr_of hD hS hA
  refine va_callv (va_runS SF (hM H.size) cw (preS hK hZ hA hP hD hS) rfl hn hsize rfl (lv_room hroom) hdg (by rw [h0, h1]; exact hf)) hS (fun q _ h => hFc q h) hFc (fun u t H1 locs1 ht hvm hw hB hz1 hk1 hS1 => ?_)
  rw [h0, h1]
  obtain ⟨hP1, hD1⟩ := hB
  rw [ht] at hP1
  exact kk  u H1 locs1 hw hP1 (hD1.weaken (fun _ q _ h => hFc q.1 h)) hS1

theorem callSNIr {post : Int32 → Prop} (SF : CallFix p m c cc nL s args wsL_law own) (hM : CtI l D cy tz y ws rm As w (fun _ : Unit => w) (fun r _ => post r)) (cw : va_CN R s args own index y host bytes maxL ret ws rm rm.cells rm.slots n ∧ (Cond.static y).before args s = true ∧ True) (h0 : rm.cells = 0) (h1 : rm.slots = 0) (hK : va_K D vwCl (TY cy) s) (hZ : ZZ tz A s s.heap) (hA : ∀ q, s.heap.size ≤ q → A q) (hP : va_P D vwCl w H) (hD : va_D A w) (hS : va_S A s.heap H locs) (hn : As.length = n) (hsize : ls.size = nL) (hst : st0 = As.reverse ++ rest) (hroom : (rest.map fun v => v.category).sum ≤ 8) (hdg : decode cc pc = .ok (.invokestatic index, 3)) (hf : cells ≤ R.cells ∧ slots ≤ R.slots)
    (kk : ∀ (r : Int32) (H1 : Heap) (locs1 : List Loc), post r → va_P D vwCl w H1 → va_D A w → va_S A s.heap H1 locs1 → W p l e R s m args below meth c H1 locs1 cells slots Q (F0 m (pc + 3) ls (.int r :: rest))) : W p l e R s m args below meth c H locs cells slots Q (F0 m pc ls st0) := by
  subst hst
  have hFc := fr_of hD hS hA
  refine va_calli (va_runSN SF (hM H.size) cw (preS hK hZ hA hP hD hS) rfl hn hsize rfl (lv_room hroom) hdg (by rw [h0, h1]; exact hf)) hS (fun q _ h => hFc q h) hFc (fun r u t H1 locs1 ht hvm hw hB hz1 hk1 hS1 => ?_)
  rw [h0, h1]
  obtain ⟨hP1, hD1⟩ := hB
  rw [ht] at hP1
  exact kk r H1 locs1 hw hP1 (hD1.weaken (fun _ q _ h => hFc q.1 h)) hS1

end CC

theorem gdV {own C : String} {idx : Nat} {y : MethodName} {b : ByteArray} {n : Nat} {r : Option FieldType} (h1 : Cond.methodLink own idx y ∈ wsL_law) (h2 : Cond.instanceMethod y ∈ wsL_law) (h3 : Cond.selects C y y ∈ wsL_law) (h4 : Cond.initialized C ∈ wsL_law) (h5 : Cond.code y b n r ∈ wsL_law) : GoodIn wsL_law (wsV own idx C y (.code y b n r :: wsL_law)) := by
  intro w h
  have hm : w ∈ wsL_law := by
    rcases List.mem_append.mp h with h | h
    · simp only [List.mem_cons, List.not_mem_nil, or_false] at h
      rcases h with rfl | rfl | rfl | rfl <;> assumption
    · rcases List.mem_cons.mp h with rfl | h
      · exact h5
      · exact h
  exact ⟨hm, good_of_word (wsL_law_ok w hm).2⟩
theorem gdS {own : String} {idx : Nat} {y : MethodName} {b : ByteArray} {n : Nat} {r : Option FieldType} (h1 : Cond.methodLink own idx y ∈ wsL_law) (h2 : Cond.static y ∈ wsL_law) (h4 : Cond.initialized y.cls ∈ wsL_law) (h5 : Cond.code y b n r ∈ wsL_law) : GoodIn wsL_law (va_wsS own idx y (.code y b n r :: wsL_law)) := by
  intro w h
  have hm : w ∈ wsL_law := by
    rcases List.mem_append.mp h with h | h
    · simp only [List.mem_cons, List.not_mem_nil, or_false] at h
      rcases h with rfl | rfl | rfl <;> assumption
    · rcases List.mem_cons.mp h with rfl | h
      · exact h5
      · exact h
  exact ⟨hm, good_of_word (wsL_law_ok w hm).2⟩
theorem gdC {y : MethodName} {b : ByteArray} {n : Nat} {r : Option FieldType} (h5 : Cond.code y b n r ∈ wsL_law) : GoodIn wsL_law (.code y b n r :: wsL_law) := by
  intro w h
  have hm : w ∈ wsL_law := by
    rcases List.mem_cons.mp h with rfl | h
    · exact h5
    · exact h
  exact ⟨hm, good_of_word (wsL_law_ok w hm).2⟩

def wX (cy : Nat → ClassId) (ad : Nat → Nat) (st : St) : va_W := [(ad 0, .inr (9, [.ref (ad 1), .ref (ad 3), .ref (ad 23), .ref (ad 13), .ref (ad 16), .ref (ad 17), .ref (ad 20), .ref (ad 22)])), (ad 1, .inr (4, [.ref (ad 2), .int (gI st 0)])), (ad 2, .inl (cy 0, 40, .inl (gA st 0))), (ad 3, .inr (7, [.ref (ad 4), .ref (ad 5), .ref (ad 8), .ref (ad 11), .ref (ad 12), .int (gI st 1)])), (ad 4, .inl (cy 0, 5, .inl (gA st 1))), (ad 5, .inr (6, [.ref (ad 6), .ref (ad 7), .int (gI st 2), .int (gI st 3)])), (ad 6, .inl (cy 0, 20, .inl (gA st 2))), (ad 7, .inl (cy 0, 20, .inl (gA st 3))), (ad 8, .inr (2, [.ref (ad 9), .ref (ad 10), .int (gI st 4)])), (ad 9, .inl (cy 0, 24, .inl (gA st 4))), (ad 10, .inl (cy 0, 24, .inl (gA st 5))), (ad 11, .inl (cy 0, 8, .inl (gA st 6))), (ad 12, .inl (cy 0, 8, .inl (gA st 7))), (ad 13, .inr (5, [.ref (ad 14), .ref (ad 15)])), (ad 14, .inl (cy 0, 61, .inl (gA st 8))), (ad 15, .inl (cy 0, 61, .inl (gA st 9))), (ad 16, .inr (0, [.long (gL st 0), .long (gL st 1), .long (gL st 2), .long (gL st 3), .long (gL st 4), .long (gL st 5)])), (ad 17, .inr (8, [.ref (ad 18), .ref (ad 19)])), (ad 18, .inl (cy 1, 61, .inr (.inl (gB st 0)))), (ad 19, .inl (cy 1, 61, .inr (.inl (gB st 1)))), (ad 20, .inr (1, [.ref (ad 21), .int (gI st 5), .int (gI st 6), .int (gI st 7)])), (ad 21, .inl (cy 0, 62, .inl (gA st 10))), (ad 22, .inr (3, [.int (gI st 8), .int (gI st 9)]))]
def wM (cy : Nat → ClassId) (ad : Nat → Nat) (st : St) : va_W := [(ad 0, .inr (10, [.ref (ad 1), .int (gI st 1), .int (gI st 2), .ref (ad 2), .ref (ad 3), .ref (ad 4), .ref (ad 5), .int (gI st 7), .ref (ad 6), .ref (ad 7), .int (gI st 10), .int (gI st 11), .ref (ad 8), .ref (ad 9), .int (gI st 14), .int (gI st 15), .int (gI st 16), .int (gI st 17), .int (gI st 18), .ref (ad 10), .ref (ad 11), .ref (ad 12), .int (gI st 22), .int (gI st 23), .int (gI st 24), .ref (ad 13), .ref (ad 14), .int (gI st 27), .ref (ad 15), .ref (ad 16), .int (gI st 30), .ref (ad 17), .ref (ad 18), .int (gI st 33), .int (gI st 34)])), (ad 1, .inl (cy 0, 24, .inl (gA st 0))), (ad 2, .inl (cy 0, 5, .inl (gA st 3))), (ad 3, .inl (cy 0, 62, .inl (gA st 4))), (ad 4, .inl (cy 0, 62, .inl (gA st 5))), (ad 5, .inl (cy 0, 40, .inl (gA st 6))), (ad 6, .inl (cy 0, 20, .inl (gA st 8))), (ad 7, .inl (cy 0, 20, .inl (gA st 9))), (ad 8, .inl (cy 0, 8, .inl (gA st 12))), (ad 9, .inl (cy 0, 8, .inl (gA st 13))), (ad 10, .inl (cy 2, 1488, .inl (gA st 19))), (ad 11, .inl (cy 0, 21, .inl (gA st 20))), (ad 12, .inl (cy 0, 21, .inl (gA st 21))), (ad 13, .inl (cy 0, 24, .inl (gA st 25))), (ad 14, .inl (cy 0, 24, .inl (gA st 26))), (ad 15, .inl (cy 0, 24, .inl (gA st 28))), (ad 16, .inl (cy 0, 24, .inl (gA st 29))), (ad 17, .inl (cy 0, 280, .inl (gA st 31))), (ad 18, .inl (cy 2, 2, .inl (gA st 32)))]
