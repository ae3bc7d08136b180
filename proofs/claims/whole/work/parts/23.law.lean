/-! THE CLAIM OUT OF ONE WALK OF THE LAW'S BODY. Your part is whole_start (and what it stands on); all else here is the same for every law, but numbers. -/
def R_law : String := "RoundThrowLaw"
def lw_P (b : Addr) (xs : List Int32) (args : Array Value) (s : State) : Prop := args = #[.ref b] ∧ s.IntsAt b xs ∧ xs.length ≤ 3584 ∧ (Jvm.Cond.and given_1 narrow_1).before args s = true
def lw_Q (_ : Array Value) (s : State) (o : Outcome) (t : State) : Prop := o = .returned (some (.int 1)) ∧ Framed s o t [] 600000 7302250
def lw_Z (below : List Frame) (a : Array Value) (s : State) : State → Prop := fun t => ∃ o, t.status = .running ∧ Ended t below o ∧ lw_Q a s o t
/-- the law's own end, with 1 on the stack, nothing written that was there before, its room as the claim has it -/
theorem lw_ret {p : Program} {l : Launch} {e : Env} {s : State} {m : MethodId} {below : List Frame} {meth : Method} {c : Code} {b : Nat} (hx : p.tables.exec = Jvm.exec) (hb : c.code = code) (hr : meth.sig.returnType = ret) (hlocks : meth.locks = false) {pc : Nat} {H : Heap} {ls : Array Slot} (hdg : decode code pc = .ok (.ireturn, 1)) : W p l e room_1 s m #[Value.ref b] below meth c H [] 600000 7302250 (lw_Z below #[Value.ref b] s) (F0 m pc ls [.int 1]) := by
  intro T hT X
  obtain ⟨fs, hret, hrun, hended, hW, hframe⟩ := X.leave (v := some (.int 1)) (hlocks := hlocks) (fun h => by rw [hr] at h; cases h)
  have hmeth' : T.vm.method? m = some meth := X.method'
  refine ⟨T.setFrames fs, ?_, .returned (some (.int 1)), hrun, hended, rfl, ⟨_, rfl⟩, hW, hframe⟩
  jvm_step X.here [X.here.top, hx, hb, hdg, hmeth', hr, ret, narrow_b1]
  (try refine ⟨rfl, ?_⟩); (try refine ⟨rfl, ?_⟩)
  first | (intro acts; rw [hret _ acts rfl rfl rfl]) | rw [hret _ _ rfl rfl rfl]
  exact Steps.refl _
/-- what holds at the law's entry: the machine, the code, the tables' words (any of lw_tbl by 'hts w (by decide +kernel)'), the script of L ints xs at the cell b, what the Statement gives of the start (any of its parts by flat_of_before) -/
def lw_At (p : Program) (s : State) (m : MethodId) (meth : Method) (c : Code) (b L : Nat) (xs : Nat → Int32) : Prop :=
  p.tables.exec = Jvm.exec ∧ c.code = code ∧ meth.sig.returnType = ret ∧ c.maxLocals = 4 ∧ s.vm.findClass R_law = some m.cls ∧ (∀ w ∈ lw_tbl, w.before #[Value.ref b] s = true) ∧ va_X b L xs s s.heap ∧ b < s.heap.size ∧ meth.locks = false ∧ (Jvm.Cond.and given_1 narrow_1).before #[Value.ref b] s = true

theorem cw_RL_13 {R : Room} {s : State} {args : Array Value} (hts : ∀ w ∈ wsL_law, w.before args s = true) (hR : rm_X10_set.frames + 1 ≤ R.frames ∧ 8 + (4 + 11) + rm_X10_set.locals ≤ R.locals) : CallW R s args RL RX10 13 yX10_set cX10_set 4 (some .int) ws_X10_set rm_X10_set rm_X10_set.cells rm_X10_set.slots 2 := cwV 2 hts (gdV w_6_1 w_6_2 w_6_3 w_1_2 w_6_4) rfl rfl rfl (by decide +kernel) hR
theorem cw_RL_17 {R : Room} {s : State} {args : Array Value} (hts : ∀ w ∈ wsL_law, w.before args s = true) (hR : rm_X11_set.frames + 1 ≤ R.frames ∧ 8 + (6 + 11) + rm_X11_set.locals ≤ R.locals) : CallW R s args RL RX11 17 yX11_set cX11_set 6 (some .int) ws_X11_set rm_X11_set rm_X11_set.cells rm_X11_set.slots 2 := cwV 2 hts (gdV w_6_13 w_6_14 w_6_15 w_1_5 w_6_16) rfl rfl rfl (by decide +kernel) hR
theorem cw_RL_18 {R : Room} {s : State} {args : Array Value} (hts : ∀ w ∈ wsL_law, w.before args s = true) (hR : rm_X10_say.frames + 1 ≤ R.frames ∧ 8 + (2 + 11) + rm_X10_say.locals ≤ R.locals) : CallW R s args RL RX10 18 yX10_say cX10_say 2 (some .int) ws_X10_say rm_X10_say rm_X10_say.cells rm_X10_say.slots 1 := cwV 1 hts (gdV w_7_1 w_7_2 w_7_3 w_1_2 w_7_4) rfl rfl rfl (by decide +kernel) hR
theorem cw_RL_22 {R : Room} {s : State} {args : Array Value} (hts : ∀ w ∈ wsL_law, w.before args s = true) (hR : rm_X11_say.frames + 1 ≤ R.frames ∧ 8 + (2 + 11) + rm_X11_say.locals ≤ R.locals) : CallW R s args RL RX11 22 yX11_say cX11_say 2 (some .int) ws_X11_say rm_X11_say rm_X11_say.cells rm_X11_say.slots 1 := cwV 1 hts (gdV w_7_12 w_7_13 w_7_14 w_1_5 w_7_15) rfl rfl rfl (by decide +kernel) hR
theorem cw_RL_23 {R : Room} {s : State} {args : Array Value} (hts : ∀ w ∈ wsL_law, w.before args s = true) (hR : rm_X10_wipe.frames + 1 ≤ R.frames ∧ 8 + (2 + 11) + rm_X10_wipe.locals ≤ R.locals) : CallW R s args RL RX10 23 yX10_wipe cX10_wipe 2 (some .int) ws_X10_wipe rm_X10_wipe rm_X10_wipe.cells rm_X10_wipe.slots 0 := cwV 0 hts (gdV w_7_19 w_7_20 w_7_21 w_1_2 w_7_22) rfl rfl rfl (by decide +kernel) hR
theorem cw_RL_27 {R : Room} {s : State} {args : Array Value} (hts : ∀ w ∈ wsL_law, w.before args s = true) (hR : rm_X11_wipe.frames + 1 ≤ R.frames ∧ 8 + (2 + 11) + rm_X11_wipe.locals ≤ R.locals) : CallW R s args RL RX11 27 yX11_wipe cX11_wipe 2 (some .int) ws_X11_wipe rm_X11_wipe rm_X11_wipe.cells rm_X11_wipe.slots 0 := cwV 0 hts (gdV w_7_23 w_8_0 w_8_1 w_1_5 w_8_2) rfl rfl rfl (by decide +kernel) hR
theorem cw_RL_28 {R : Room} {s : State} {args : Array Value} (hts : ∀ w ∈ wsL_law, w.before args s = true) (hR : rm_X10_fault.frames + 1 ≤ R.frames ∧ 8 + (1 + 11) + rm_X10_fault.locals ≤ R.locals) : CallW R s args RL RX10 28 yX10_fault cX10_fault 1 (some .int) ws_X10_fault rm_X10_fault rm_X10_fault.cells rm_X10_fault.slots 0 := cwV 0 hts (gdV w_8_3 w_8_4 w_8_5 w_1_2 w_8_6) rfl rfl rfl (by decide +kernel) hR
theorem cw_RL_31 {R : Room} {s : State} {args : Array Value} (hts : ∀ w ∈ wsL_law, w.before args s = true) (hR : rm_X11_fault.frames + 1 ≤ R.frames ∧ 8 + (4 + 11) + rm_X11_fault.locals ≤ R.locals) : CallW R s args RL RX11 31 yX11_fault cX11_fault 4 (some .int) ws_X11_fault rm_X11_fault rm_X11_fault.cells rm_X11_fault.slots 0 := cwV 0 hts (gdV w_8_17 w_8_18 w_8_19 w_1_5 w_8_20) rfl rfl rfl (by decide +kernel) hR
theorem cw_RL_32 {R : Room} {s : State} {args : Array Value} (hts : ∀ w ∈ wsL_law, w.before args s = true) (hR : rm_X10_push.frames + 1 ≤ R.frames ∧ 8 + (1 + 11) + rm_X10_push.locals ≤ R.locals) : CallW R s args RL RX10 32 yX10_push cX10_push 1 (some .int) ws_X10_push rm_X10_push rm_X10_push.cells rm_X10_push.slots 0 := cwV 0 hts (gdV w_9_3 w_9_4 w_9_5 w_1_2 w_9_6) rfl rfl rfl (by decide +kernel) hR
theorem cw_RL_35 {R : Room} {s : State} {args : Array Value} (hts : ∀ w ∈ wsL_law, w.before args s = true) (hR : rm_X11_push.frames + 1 ≤ R.frames ∧ 8 + (5 + 11) + rm_X11_push.locals ≤ R.locals) : CallW R s args RL RX11 35 yX11_push cX11_push 5 (some .int) ws_X11_push rm_X11_push rm_X11_push.cells rm_X11_push.slots 0 := cwV 0 hts (gdV w_9_21 w_9_22 w_9_23 w_1_5 w_10_0) rfl rfl rfl (by decide +kernel) hR
theorem cw_RL_36 {R : Room} {s : State} {args : Array Value} (hts : ∀ w ∈ wsL_law, w.before args s = true) (hR : rm_X10_turn.frames + 1 ≤ R.frames ∧ 8 + (3 + 11) + rm_X10_turn.locals ≤ R.locals) : CallW R s args RL RX10 36 yX10_turn cX10_turn 3 (some .int) ws_X10_turn rm_X10_turn rm_X10_turn.cells rm_X10_turn.slots 2 := cwV 2 hts (gdV w_10_4 w_10_5 w_10_6 w_1_2 w_10_7) rfl rfl rfl (by decide +kernel) hR
theorem cw_RL_39 {R : Room} {s : State} {args : Array Value} (hts : ∀ w ∈ wsL_law, w.before args s = true) (hR : rm_X11_turn.frames + 1 ≤ R.frames ∧ 8 + (3 + 11) + rm_X11_turn.locals ≤ R.locals) : CallW R s args RL RX11 39 yX11_turn cX11_turn 3 (some .int) ws_X11_turn rm_X11_turn rm_X11_turn.cells rm_X11_turn.slots 2 := cwV 2 hts (gdV w_11_22 w_11_23 w_12_0 w_1_5 w_12_1) rfl rfl rfl (by decide +kernel) hR
theorem cw_RL_40 {R : Room} {s : State} {args : Array Value} (hts : ∀ w ∈ wsL_law, w.before args s = true) (hR : rm_X10_sit.frames + 1 ≤ R.frames ∧ 8 + (3 + 11) + rm_X10_sit.locals ≤ R.locals) : CallW R s args RL RX10 40 yX10_sit cX10_sit 3 (some .int) ws_X10_sit rm_X10_sit rm_X10_sit.cells rm_X10_sit.slots 2 := cwV 2 hts (gdV w_12_16 w_12_17 w_12_18 w_1_2 w_12_19) rfl rfl rfl (by decide +kernel) hR
theorem cw_RL_43 {R : Room} {s : State} {args : Array Value} (hts : ∀ w ∈ wsL_law, w.before args s = true) (hR : rm_X11_sit.frames + 1 ≤ R.frames ∧ 8 + (3 + 11) + rm_X11_sit.locals ≤ R.locals) : CallW R s args RL RX11 43 yX11_sit cX11_sit 3 (some .int) ws_X11_sit rm_X11_sit rm_X11_sit.cells rm_X11_sit.slots 2 := cwV 2 hts (gdV w_13_21 w_13_22 w_13_23 w_1_5 w_14_0) rfl rfl rfl (by decide +kernel) hR
theorem cw_RL_44 {R : Room} {s : State} {args : Array Value} (hts : ∀ w ∈ wsL_law, w.before args s = true) (hR : rm_X10_point.frames + 1 ≤ R.frames ∧ 8 + (7 + 11) + rm_X10_point.locals ≤ R.locals) : CallW R s args RL RX10 44 yX10_point cX10_point 7 (some .int) ws_X10_point rm_X10_point rm_X10_point.cells rm_X10_point.slots 3 := cwV 3 hts (gdV w_14_14 w_14_15 w_14_16 w_1_2 w_14_17) rfl rfl rfl (by decide +kernel) hR
theorem cw_RL_48 {R : Room} {s : State} {args : Array Value} (hts : ∀ w ∈ wsL_law, w.before args s = true) (hR : rm_X11_point.frames + 1 ≤ R.frames ∧ 8 + (4 + 11) + rm_X11_point.locals ≤ R.locals) : CallW R s args RL RX11 48 yX11_point cX11_point 4 (some .int) ws_X11_point rm_X11_point rm_X11_point.cells rm_X11_point.slots 3 := cwV 3 hts (gdV w_15_11 w_15_12 w_15_13 w_1_5 w_15_14) rfl rfl rfl (by decide +kernel) hR
theorem cw_RL_49 {R : Room} {s : State} {args : Array Value} (hts : ∀ w ∈ wsL_law, w.before args s = true) (hR : rm_X10_ball.frames + 1 ≤ R.frames ∧ 8 + (11 + 11) + rm_X10_ball.locals ≤ R.locals) : CallW R s args RL RX10 49 yX10_ball cX10_ball 11 (some .int) ws_X10_ball rm_X10_ball rm_X10_ball.cells rm_X10_ball.slots 5 := cwV 5 hts (gdV w_16_6 w_16_7 w_16_8 w_1_2 w_16_9) rfl rfl rfl (by decide +kernel) hR
theorem cw_RL_53 {R : Room} {s : State} {args : Array Value} (hts : ∀ w ∈ wsL_law, w.before args s = true) (hR : rm_X11_ball.frames + 1 ≤ R.frames ∧ 8 + (6 + 11) + rm_X11_ball.locals ≤ R.locals) : CallW R s args RL RX11 53 yX11_ball cX11_ball 6 (some .int) ws_X11_ball rm_X11_ball rm_X11_ball.cells rm_X11_ball.slots 5 := cwV 5 hts (gdV w_17_19 w_17_20 w_17_21 w_1_5 w_17_22) rfl rfl rfl (by decide +kernel) hR
theorem cw_RL_54 {R : Room} {s : State} {args : Array Value} (hts : ∀ w ∈ wsL_law, w.before args s = true) (hR : rm_X10_caught.frames + 1 ≤ R.frames ∧ 8 + (5 + 11) + rm_X10_caught.locals ≤ R.locals) : CallW R s args RL RX10 54 yX10_caught cX10_caught 5 (some .int) ws_X10_caught rm_X10_caught rm_X10_caught.cells rm_X10_caught.slots 4 := cwV 4 hts (gdV w_18_23 w_19_0 w_19_1 w_1_2 w_19_2) rfl rfl rfl (by decide +kernel) hR
theorem cw_RL_58 {R : Room} {s : State} {args : Array Value} (hts : ∀ w ∈ wsL_law, w.before args s = true) (hR : rm_X11_caught.frames + 1 ≤ R.frames ∧ 8 + (5 + 11) + rm_X11_caught.locals ≤ R.locals) : CallW R s args RL RX11 58 yX11_caught cX11_caught 5 (some .int) ws_X11_caught rm_X11_caught rm_X11_caught.cells rm_X11_caught.slots 4 := cwV 4 hts (gdV w_20_8 w_20_9 w_20_10 w_1_5 w_20_11) rfl rfl rfl (by decide +kernel) hR
theorem cw_RL_59 {R : Room} {s : State} {args : Array Value} (hts : ∀ w ∈ wsL_law, w.before args s = true) (hR : rm_X10_all.frames + 1 ≤ R.frames ∧ 8 + (4 + 11) + rm_X10_all.locals ≤ R.locals) : CallW R s args RL RX10 59 yX10_all cX10_all 4 (some .int) ws_X10_all rm_X10_all rm_X10_all.cells rm_X10_all.slots 3 := cwV 3 hts (gdV w_20_23 w_21_0 w_21_1 w_1_2 w_21_2) rfl rfl rfl (by decide +kernel) hR
theorem cw_RL_62 {R : Room} {s : State} {args : Array Value} (hts : ∀ w ∈ wsL_law, w.before args s = true) (hR : rm_X11_all.frames + 1 ≤ R.frames ∧ 8 + (9 + 11) + rm_X11_all.locals ≤ R.locals) : CallW R s args RL RX11 62 yX11_all cX11_all 9 (some .int) ws_X11_all rm_X11_all rm_X11_all.cells rm_X11_all.slots 3 := cwV 3 hts (gdV w_22_15 w_22_16 w_22_17 w_1_5 w_22_18) rfl rfl rfl (by decide +kernel) hR
theorem cw_RL_63 {R : Room} {s : State} {args : Array Value} (hts : ∀ w ∈ wsL_law, w.before args s = true) (hR : rm_X10_loops.frames + 1 ≤ R.frames ∧ 8 + (4 + 11) + rm_X10_loops.locals ≤ R.locals) : CallW R s args RL RX10 63 yX10_loops cX10_loops 4 (some .int) ws_X10_loops rm_X10_loops rm_X10_loops.cells rm_X10_loops.slots 3 := cwV 3 hts (gdV w_22_23 w_23_0 w_23_1 w_1_2 w_23_2) rfl rfl rfl (by decide +kernel) hR
theorem cw_RL_66 {R : Room} {s : State} {args : Array Value} (hts : ∀ w ∈ wsL_law, w.before args s = true) (hR : rm_X11_loops.frames + 1 ≤ R.frames ∧ 8 + (7 + 11) + rm_X11_loops.locals ≤ R.locals) : CallW R s args RL RX11 66 yX11_loops cX11_loops 7 (some .int) ws_X11_loops rm_X11_loops rm_X11_loops.cells rm_X11_loops.slots 3 := cwV 3 hts (gdV w_24_13 w_24_14 w_24_15 w_1_5 w_24_16) rfl rfl rfl (by decide +kernel) hR
theorem cw_RL_67 {R : Room} {s : State} {args : Array Value} (hts : ∀ w ∈ wsL_law, w.before args s = true) (hR : rm_X10_rolled.frames + 1 ≤ R.frames ∧ 8 + (8 + 11) + rm_X10_rolled.locals ≤ R.locals) : CallW R s args RL RX10 67 yX10_rolled cX10_rolled 8 (some .int) ws_X10_rolled rm_X10_rolled rm_X10_rolled.cells rm_X10_rolled.slots 6 := cwV 6 hts (gdV w_25_8 w_25_9 w_25_10 w_1_2 w_25_11) rfl rfl rfl (by decide +kernel) hR
theorem cw_RL_71 {R : Room} {s : State} {args : Array Value} (hts : ∀ w ∈ wsL_law, w.before args s = true) (hR : rm_X11_rolled.frames + 1 ≤ R.frames ∧ 8 + (7 + 11) + rm_X11_rolled.locals ≤ R.locals) : CallW R s args RL RX11 71 yX11_rolled cX11_rolled 7 (some .int) ws_X11_rolled rm_X11_rolled rm_X11_rolled.cells rm_X11_rolled.slots 6 := cwV 6 hts (gdV w_26_3 w_26_4 w_26_5 w_1_5 w_26_6) rfl rfl rfl (by decide +kernel) hR
theorem cw_RL_72 {R : Room} {s : State} {args : Array Value} (hts : ∀ w ∈ wsL_law, w.before args s = true) (hR : rm_X10_off.frames + 1 ≤ R.frames ∧ 8 + (6 + 11) + rm_X10_off.locals ≤ R.locals) : CallW R s args RL RX10 72 yX10_off cX10_off 6 (some .int) ws_X10_off rm_X10_off rm_X10_off.cells rm_X10_off.slots 4 := cwV 4 hts (gdV w_26_21 w_26_22 w_26_23 w_1_2 w_27_0) rfl rfl rfl (by decide +kernel) hR
theorem cw_RL_75 {R : Room} {s : State} {args : Array Value} (hts : ∀ w ∈ wsL_law, w.before args s = true) (hR : rm_X11_off.frames + 1 ≤ R.frames ∧ 8 + (5 + 11) + rm_X11_off.locals ≤ R.locals) : CallW R s args RL RX11 75 yX11_off cX11_off 5 (some .int) ws_X11_off rm_X11_off rm_X11_off.cells rm_X11_off.slots 4 := cwV 4 hts (gdV w_27_9 w_27_10 w_27_11 w_1_5 w_27_12) rfl rfl rfl (by decide +kernel) hR
theorem cw_RL_76 {R : Room} {s : State} {args : Array Value} (hts : ∀ w ∈ wsL_law, w.before args s = true) (hR : rm_X10_leans.frames + 1 ≤ R.frames ∧ 8 + (2 + 11) + rm_X10_leans.locals ≤ R.locals) : CallW R s args RL RX10 76 yX10_leans cX10_leans 2 (some .int) ws_X10_leans rm_X10_leans rm_X10_leans.cells rm_X10_leans.slots 1 := cwV 1 hts (gdV w_27_17 w_27_18 w_27_19 w_1_2 w_27_20) rfl rfl rfl (by decide +kernel) hR
theorem cw_RL_79 {R : Room} {s : State} {args : Array Value} (hts : ∀ w ∈ wsL_law, w.before args s = true) (hR : rm_X11_leans.frames + 1 ≤ R.frames ∧ 8 + (2 + 11) + rm_X11_leans.locals ≤ R.locals) : CallW R s args RL RX11 79 yX11_leans cX11_leans 2 (some .int) ws_X11_leans rm_X11_leans rm_X11_leans.cells rm_X11_leans.slots 1 := cwV 1 hts (gdV w_28_0 w_28_1 w_28_2 w_1_5 w_28_3) rfl rfl rfl (by decide +kernel) hR
theorem cw_RL_80 {R : Room} {s : State} {args : Array Value} (hts : ∀ w ∈ wsL_law, w.before args s = true) (hR : rm_X10_stays.frames + 1 ≤ R.frames ∧ 8 + (3 + 11) + rm_X10_stays.locals ≤ R.locals) : CallW R s args RL RX10 80 yX10_stays cX10_stays 3 (some .int) ws_X10_stays rm_X10_stays rm_X10_stays.cells rm_X10_stays.slots 1 := cwV 1 hts (gdV w_28_8 w_28_9 w_28_10 w_1_2 w_28_11) rfl rfl rfl (by decide +kernel) hR
theorem cw_RL_83 {R : Room} {s : State} {args : Array Value} (hts : ∀ w ∈ wsL_law, w.before args s = true) (hR : rm_X11_stays.frames + 1 ≤ R.frames ∧ 8 + (3 + 11) + rm_X11_stays.locals ≤ R.locals) : CallW R s args RL RX11 83 yX11_stays cX11_stays 3 (some .int) ws_X11_stays rm_X11_stays rm_X11_stays.cells rm_X11_stays.slots 1 := cwV 1 hts (gdV w_28_12 w_28_13 w_28_14 w_1_5 w_28_15) rfl rfl rfl (by decide +kernel) hR
theorem cw_RL_84 {R : Room} {s : State} {args : Array Value} (hts : ∀ w ∈ wsL_law, w.before args s = true) (hR : rm_X10_hut.frames + 1 ≤ R.frames ∧ 8 + (6 + 11) + rm_X10_hut.locals ≤ R.locals) : CallW R s args RL RX10 84 yX10_hut cX10_hut 6 (some .int) ws_X10_hut rm_X10_hut rm_X10_hut.cells rm_X10_hut.slots 3 := cwV 3 hts (gdV w_28_17 w_28_18 w_28_19 w_1_2 w_28_20) rfl rfl rfl (by decide +kernel) hR
theorem cw_RL_87 {R : Room} {s : State} {args : Array Value} (hts : ∀ w ∈ wsL_law, w.before args s = true) (hR : rm_X11_hut.frames + 1 ≤ R.frames ∧ 8 + (6 + 11) + rm_X11_hut.locals ≤ R.locals) : CallW R s args RL RX11 87 yX11_hut cX11_hut 6 (some .int) ws_X11_hut rm_X11_hut rm_X11_hut.cells rm_X11_hut.slots 3 := cwV 3 hts (gdV w_28_21 w_28_22 w_28_23 w_1_5 w_29_0) rfl rfl rfl (by decide +kernel) hR
theorem cw_RL_88 {R : Room} {s : State} {args : Array Value} (hts : ∀ w ∈ wsL_law, w.before args s = true) (hR : rm_X10_film.frames + 1 ≤ R.frames ∧ 8 + (3 + 11) + rm_X10_film.locals ≤ R.locals) : CallW R s args RL RX10 88 yX10_film cX10_film 3 (some .int) ws_X10_film rm_X10_film rm_X10_film.cells rm_X10_film.slots 2 := cwV 2 hts (gdV w_29_1 w_29_2 w_29_3 w_1_2 w_29_4) rfl rfl rfl (by decide +kernel) hR
theorem cw_RL_91 {R : Room} {s : State} {args : Array Value} (hts : ∀ w ∈ wsL_law, w.before args s = true) (hR : rm_X11_film.frames + 1 ≤ R.frames ∧ 8 + (3 + 11) + rm_X11_film.locals ≤ R.locals) : CallW R s args RL RX11 91 yX11_film cX11_film 3 (some .int) ws_X11_film rm_X11_film rm_X11_film.cells rm_X11_film.slots 2 := cwV 2 hts (gdV w_29_12 w_29_13 w_29_14 w_1_5 w_29_15) rfl rfl rfl (by decide +kernel) hR
theorem cw_RL_92 {R : Room} {s : State} {args : Array Value} (hts : ∀ w ∈ wsL_law, w.before args s = true) (hR : rm_X10_clear.frames + 1 ≤ R.frames ∧ 8 + (2 + 11) + rm_X10_clear.locals ≤ R.locals) : CallW R s args RL RX10 92 yX10_clear cX10_clear 2 (some .int) ws_X10_clear rm_X10_clear rm_X10_clear.cells rm_X10_clear.slots 0 := cwV 0 hts (gdV w_29_17 w_29_18 w_29_19 w_1_2 w_29_20) rfl rfl rfl (by decide +kernel) hR
theorem cw_RL_95 {R : Room} {s : State} {args : Array Value} (hts : ∀ w ∈ wsL_law, w.before args s = true) (hR : rm_X11_clear.frames + 1 ≤ R.frames ∧ 8 + (2 + 11) + rm_X11_clear.locals ≤ R.locals) : CallW R s args RL RX11 95 yX11_clear cX11_clear 2 (some .int) ws_X11_clear rm_X11_clear rm_X11_clear.cells rm_X11_clear.slots 0 := cwV 0 hts (gdV w_29_21 w_29_22 w_29_23 w_1_5 w_30_0) rfl rfl rfl (by decide +kernel) hR
theorem cw_RL_96 {R : Room} {s : State} {args : Array Value} (hts : ∀ w ∈ wsL_law, w.before args s = true) (hR : rm_X10_bent.frames + 1 ≤ R.frames ∧ 8 + (2 + 11) + rm_X10_bent.locals ≤ R.locals) : CallW R s args RL RX10 96 yX10_bent cX10_bent 2 (some .int) ws_X10_bent rm_X10_bent rm_X10_bent.cells rm_X10_bent.slots 1 := cwV 1 hts (gdV w_30_1 w_30_2 w_30_3 w_1_2 w_30_4) rfl rfl rfl (by decide +kernel) hR
theorem cw_RL_99 {R : Room} {s : State} {args : Array Value} (hts : ∀ w ∈ wsL_law, w.before args s = true) (hR : rm_X11_bent.frames + 1 ≤ R.frames ∧ 8 + (2 + 11) + rm_X11_bent.locals ≤ R.locals) : CallW R s args RL RX11 99 yX11_bent cX11_bent 2 (some .int) ws_X11_bent rm_X11_bent rm_X11_bent.cells rm_X11_bent.slots 1 := cwV 1 hts (gdV w_30_22 w_30_23 w_31_0 w_1_5 w_31_1) rfl rfl rfl (by decide +kernel) hR
theorem cw_RL_100 {R : Room} {s : State} {args : Array Value} (hts : ∀ w ∈ wsL_law, w.before args s = true) (hR : rm_X10_turned.frames + 1 ≤ R.frames ∧ 8 + (1 + 11) + rm_X10_turned.locals ≤ R.locals) : CallW R s args RL RX10 100 yX10_turned cX10_turned 1 (some .int) ws_X10_turned rm_X10_turned rm_X10_turned.cells rm_X10_turned.slots 0 := cwV 0 hts (gdV w_31_7 w_31_8 w_31_9 w_1_2 w_31_10) rfl rfl rfl (by decide +kernel) hR
theorem cw_RL_103 {R : Room} {s : State} {args : Array Value} (hts : ∀ w ∈ wsL_law, w.before args s = true) (hR : rm_X11_turned.frames + 1 ≤ R.frames ∧ 8 + (1 + 11) + rm_X11_turned.locals ≤ R.locals) : CallW R s args RL RX11 103 yX11_turned cX11_turned 1 (some .int) ws_X11_turned rm_X11_turned rm_X11_turned.cells rm_X11_turned.slots 0 := cwV 0 hts (gdV w_31_21 w_31_22 w_31_23 w_1_5 w_32_0) rfl rfl rfl (by decide +kernel) hR
theorem cw_RL_104 {R : Room} {s : State} {args : Array Value} (hts : ∀ w ∈ wsL_law, w.before args s = true) (hR : rm_X10_span.frames + 1 ≤ R.frames ∧ 8 + (3 + 11) + rm_X10_span.locals ≤ R.locals) : CallW R s args RL RX10 104 yX10_span cX10_span 3 (some .int) ws_X10_span rm_X10_span rm_X10_span.cells rm_X10_span.slots 2 := cwV 2 hts (gdV w_32_6 w_32_7 w_32_8 w_1_2 w_32_9) rfl rfl rfl (by decide +kernel) hR
theorem cw_RL_107 {R : Room} {s : State} {args : Array Value} (hts : ∀ w ∈ wsL_law, w.before args s = true) (hR : rm_X11_span.frames + 1 ≤ R.frames ∧ 8 + (6 + 11) + rm_X11_span.locals ≤ R.locals) : CallW R s args RL RX11 107 yX11_span cX11_span 6 (some .int) ws_X11_span rm_X11_span rm_X11_span.cells rm_X11_span.slots 2 := cwV 2 hts (gdV w_32_15 w_32_16 w_32_17 w_1_5 w_32_18) rfl rfl rfl (by decide +kernel) hR
theorem cw_RL_108 {R : Room} {s : State} {args : Array Value} (hts : ∀ w ∈ wsL_law, w.before args s = true) (hR : rm_X10_learns.frames + 1 ≤ R.frames ∧ 8 + (5 + 11) + rm_X10_learns.locals ≤ R.locals) : CallW R s args RL RX10 108 yX10_learns cX10_learns 5 (some .int) ws_X10_learns rm_X10_learns rm_X10_learns.cells rm_X10_learns.slots 4 := cwV 4 hts (gdV w_32_19 w_32_20 w_32_21 w_1_2 w_32_22) rfl rfl rfl (by decide +kernel) hR
theorem cw_RL_111 {R : Room} {s : State} {args : Array Value} (hts : ∀ w ∈ wsL_law, w.before args s = true) (hR : rm_X11_learns.frames + 1 ≤ R.frames ∧ 8 + (6 + 11) + rm_X11_learns.locals ≤ R.locals) : CallW R s args RL RX11 111 yX11_learns cX11_learns 6 (some .int) ws_X11_learns rm_X11_learns rm_X11_learns.cells rm_X11_learns.slots 4 := cwV 4 hts (gdV w_34_15 w_34_16 w_34_17 w_1_5 w_34_18) rfl rfl rfl (by decide +kernel) hR
theorem cw_RL_112 {R : Room} {s : State} {args : Array Value} (hts : ∀ w ∈ wsL_law, w.before args s = true) (hR : rm_X10_along.frames + 1 ≤ R.frames ∧ 8 + (5 + 11) + rm_X10_along.locals ≤ R.locals) : CallW R s args RL RX10 112 yX10_along cX10_along 5 (some .int) ws_X10_along rm_X10_along rm_X10_along.cells rm_X10_along.slots 4 := cwV 4 hts (gdV w_35_12 w_35_13 w_35_14 w_1_2 w_35_15) rfl rfl rfl (by decide +kernel) hR
theorem cw_RL_115 {R : Room} {s : State} {args : Array Value} (hts : ∀ w ∈ wsL_law, w.before args s = true) (hR : rm_X11_along.frames + 1 ≤ R.frames ∧ 8 + (7 + 11) + rm_X11_along.locals ≤ R.locals) : CallW R s args RL RX11 115 yX11_along cX11_along 7 (some .int) ws_X11_along rm_X11_along rm_X11_along.cells rm_X11_along.slots 4 := cwV 4 hts (gdV w_35_16 w_35_17 w_35_18 w_1_5 w_35_19) rfl rfl rfl (by decide +kernel) hR
theorem cw_RL_116 {R : Room} {s : State} {args : Array Value} (hts : ∀ w ∈ wsL_law, w.before args s = true) (hR : rm_X10_image.frames + 1 ≤ R.frames ∧ 8 + (2 + 11) + rm_X10_image.locals ≤ R.locals) : CallW R s args RL RX10 116 yX10_image cX10_image 2 (some .int) ws_X10_image rm_X10_image rm_X10_image.cells rm_X10_image.slots 1 := cwV 1 hts (gdV w_35_21 w_35_22 w_35_23 w_1_2 w_36_0) rfl rfl rfl (by decide +kernel) hR
theorem cw_RL_119 {R : Room} {s : State} {args : Array Value} (hts : ∀ w ∈ wsL_law, w.before args s = true) (hR : rm_X11_image.frames + 1 ≤ R.frames ∧ 8 + (2 + 11) + rm_X11_image.locals ≤ R.locals) : CallW R s args RL RX11 119 yX11_image cX11_image 2 (some .int) ws_X11_image rm_X11_image rm_X11_image.cells rm_X11_image.slots 1 := cwV 1 hts (gdV w_36_22 w_36_23 w_37_0 w_1_5 w_37_1) rfl rfl rfl (by decide +kernel) hR
theorem cw_RL_120 {R : Room} {s : State} {args : Array Value} (hts : ∀ w ∈ wsL_law, w.before args s = true) (hR : rm_X10_restore.frames + 1 ≤ R.frames ∧ 8 + (2 + 11) + rm_X10_restore.locals ≤ R.locals) : CallW R s args RL RX10 120 yX10_restore cX10_restore 2 (some .int) ws_X10_restore rm_X10_restore rm_X10_restore.cells rm_X10_restore.slots 1 := cwV 1 hts (gdV w_37_12 w_37_13 w_37_14 w_1_2 w_37_15) rfl rfl rfl (by decide +kernel) hR
theorem cw_RL_123 {R : Room} {s : State} {args : Array Value} (hts : ∀ w ∈ wsL_law, w.before args s = true) (hR : rm_X11_restore.frames + 1 ≤ R.frames ∧ 8 + (2 + 11) + rm_X11_restore.locals ≤ R.locals) : CallW R s args RL RX11 123 yX11_restore cX11_restore 2 (some .int) ws_X11_restore rm_X11_restore rm_X11_restore.cells rm_X11_restore.slots 1 := cwV 1 hts (gdV w_37_16 w_37_17 w_37_18 w_1_5 w_37_19) rfl rfl rfl (by decide +kernel) hR
theorem cw_RL_124 {R : Room} {s : State} {args : Array Value} (hts : ∀ w ∈ wsL_law, w.before args s = true) (hR : rm_X10_told.frames + 1 ≤ R.frames ∧ 8 + (2 + 11) + rm_X10_told.locals ≤ R.locals) : CallW R s args RL RX10 124 yX10_told cX10_told 2 (some .int) ws_X10_told rm_X10_told rm_X10_told.cells rm_X10_told.slots 1 := cwV 1 hts (gdV w_37_20 w_37_21 w_37_22 w_1_2 w_37_23) rfl rfl rfl (by decide +kernel) hR
theorem cw_RL_127 {R : Room} {s : State} {args : Array Value} (hts : ∀ w ∈ wsL_law, w.before args s = true) (hR : rm_X11_told.frames + 1 ≤ R.frames ∧ 8 + (2 + 11) + rm_X11_told.locals ≤ R.locals) : CallW R s args RL RX11 127 yX11_told cX11_told 2 (some .int) ws_X11_told rm_X11_told rm_X11_told.cells rm_X11_told.slots 1 := cwV 1 hts (gdV w_38_0 w_38_1 w_38_2 w_1_5 w_38_3) rfl rfl rfl (by decide +kernel) hR
abbrev lwA (s : State) : Nat → Prop := fun q => s.heap.size ≤ q
def Lc (p : Program) (s : State) (m : MethodId) (meth : Method) (c : Code) (D : va_G) (cy : Nat → ClassId) (tz : Nat → Nat) (b L : Nat) (xs : Nat → Int32) : Prop :=
  p.tables.exec = Jvm.exec ∧ c.code = code ∧ meth.sig.returnType = ret ∧ c.maxLocals = 4 ∧ s.vm.findClass RL = some m.cls ∧ (∀ w ∈ wsL_law, w.before #[Value.ref b] s = true) ∧ va_X b L xs s s.heap ∧ b < s.heap.size ∧ meth.locks = false ∧ va_K D vwCl (TY cy) s ∧ ZZ tz (lwA s) s s.heap ∧ XX tz cy (lwA s) s s.heap
def wR (cy : Nat → ClassId) (ad : Nat → Nat) (f : Nat → Option Nat) (i0 i1 : Im) : va_W := wJ cy ad f :: (wIm cy i0 ++ wIm cy i1)
def wA (cy : Nat → ClassId) (ad bd : Nat → Nat) (st mt : St) (f : Nat → Option Nat) (i0 i1 : Im) : va_W := (wR cy ad f i0 i1 ++ wX cy ad st) ++ wM cy bd mt
def wB (cy : Nat → ClassId) (ad bd : Nat → Nat) (st mt : St) (f : Nat → Option Nat) (i0 i1 : Im) : va_W := (wR cy ad f i0 i1 ++ wM cy bd mt) ++ wX cy ad st
theorem pmY (cy : Nat → ClassId) (ad bd : Nat → Nat) (st mt : St) (f : Nat → Option Nat) (i0 i1 : Im) : (wA cy ad bd st mt f i0 i1).Perm (wM cy bd mt ++ wY cy ad st f i0 i1) := by
  refine pm_of (fun dc a => ?_)
  simp only [wA, wY, wR, List.count_append, List.count_cons]
  omega
def fOk (f : Nat → Option Nat) (i0 i1 : Im) : Prop := f 0 = i0.map (fun q => q.1 3) ∧ f 1 = i1.map (fun q => q.1 3)
def jm (i : Im) : Option St := i.map (fun q => q.2)

theorem lw_ix {L j : Nat} {x3 : Int32} (hL : L ≤ 3584) (hj : 7 * j ≤ L) (hx3 : x3 = nI (7 * j)) (h : ¬ nI L - 7 < x3) : 7 * j + 7 ≤ L := by
  have h1 : (nI L - nI 7).toInt = (L : Int) - (7 : Nat) := pk_sub_toInt (by omega) (by omega)
  have h2 : ¬ (nI L - nI 7).toInt < x3.toInt := fun z => h (Int32.lt_iff_toInt_lt.mpr z)
  rw [h1, hx3, nI_toInt (by omega)] at h2
  omega
theorem lw_in {L j k : Nat} {x3 : Int32} (hL : L ≤ 3584) (hx3 : x3 = nI (7 * j)) (h : 7 * j + 7 ≤ L) (hk : k < 7) : vp_in (x3 + nI k) L := by
  rw [hx3, nI_add]
  exact vp_in_nI (by omega) (by omega)
set_option maxHeartbeats 4000000 in
set_option maxRecDepth 100000 in
theorem lo_set {p : Program} {l : Launch} {e : Env} {s : State} {m : MethodId} {below : List Frame} {meth : Method} {c : Code} {D : va_G} {cy : Nat → ClassId} {tz : Nat → Nat} {b L : Nat} {xs : Nat → Int32} {LR : St → Option St → Option St → St → Prop} {ad bd : Nat → Nat} {st mt : St} {f : Nat → Option Nat} {i0 i1 : Im} {x3 : Int32} {j : Nat} {H : Heap} {locs : List Loc} {ls : Array Slot} {cells slots : Nat} {Q : State → Prop} (hL : L ≤ 3584) (hC : Lc p s m meth c D cy tz b L xs) (hop : ∀ (st mt : St) (j0 j1 : Option St) (a1 : Int32) (a2 : Int32), LR st j0 j1 mt → wp_X10_set st a1 a2 (fun r st' => wp_X11_set mt a1 a2 (fun r' mt' => r = r' ∧ LR st' j0 j1 mt'))) (hx3 : x3 = nI (7 * j)) (hj : 7 * j + 7 ≤ L) (hcl : cells + 10 ≤ 600000) (hsl : slots + 122 ≤ 7302250) (hLR : LR st (jm i0) (jm i1) mt) (hf : fOk f i0 i1) (hP : va_P D vwCl (wA cy ad bd st mt f i0 i1) H) (hD : va_D (lwA s) (wA cy ad bd st mt f i0 i1)) (hS : va_S (lwA s) s.heap H locs) (hl : lv_has ls 4 [(0, .ref b), (1, .ref (ad 0)), (2, .ref (bd 0)), (3, .int x3)]) (next : ∀ (st2 mt2 : St) (f2 : Nat → Option Nat) (k0 k1 : Im) (H : Heap) (locs : List Loc), LR st2 (jm k0) (jm k1) mt2 → fOk f2 k0 k1 → va_P D vwCl (wA cy ad bd st2 mt2 f2 k0 k1) H → va_D (lwA s) (wA cy ad bd st2 mt2 f2 k0 k1) → va_S (lwA s) s.heap H locs → W p l e room_1 s m #[Value.ref b] below meth c H locs (cells + 10) (slots + 122) Q (F0 m 1069 ls [])) : W p l e room_1 s m #[Value.ref b] below meth c H locs cells slots Q (F0 m 156 ls []) := by
  obtain ⟨hx, hb, hr, hml, hown, hts, hX, hbl, hlocks, hK, hZ, hXX⟩ := hC
  have hA : ∀ q : Nat, s.heap.size ≤ q → lwA s q := fun _ h => h
  have hbA : ¬ lwA s b := Nat.not_le.mpr hbl
  have SF : CallFix p m c code 4 s #[Value.ref b] wsL_law RL := ⟨hx, hb, hml, hown, hts⟩
  have hi1 : vp_in (x3 + 1) L := lw_in hL hx3 hj (k := 1) (by decide)
  have hi2 : vp_in (x3 + 2) L := lw_in hL hx3 hj (k := 2) (by decide)
  have hcl0 : cells ≤ room_1.cells ∧ slots ≤ room_1.slots := ⟨show cells ≤ 600000 by omega, show slots ≤ 7302250 by omega⟩
  refine lv_aload_n hx hb dL_law_156 rfl (lv_at hl 1 rfl) ?_
  refine lv_aload_n hx hb dL_law_157 rfl (lv_at hl 0 rfl) ?_
  refine lv_iload_n hx hb dL_law_158 rfl (lv_at hl 3 rfl) ?_
  refine lv_iconst (v := 1) hx hb dL_law_159 (by decide) ?_
  refine lv_iadd hx hb dL_law_160 ?_
  refine va_sld hx hb hX hbl hbA hS hi1 dL_law_161 ?_
  refine lv_aload_n hx hb dL_law_162 rfl (lv_at hl 0 rfl) ?_
  refine lv_iload_n hx hb dL_law_163 rfl (lv_at hl 3 rfl) ?_
  refine lv_iconst (v := 2) hx hb dL_law_164 (by decide) ?_
  refine lv_iadd hx hb dL_law_165 ?_
  refine va_sld hx hb hX hbl hbA hS hi2 dL_law_166 ?_
  have hP : va_P D vwCl (wB cy ad bd st mt f i0 i1) H := va_P.swap hP
  have hD : va_D (lwA s) (wB cy ad bd st mt f i0 i1) := va_D.swap hD
  obtain ⟨hPx, hDx⟩ := part_r (r := wR cy ad f i0 i1 ++ wM cy bd mt) hP hD
  refine callTI (r := wR cy ad f i0 i1 ++ wM cy bd mt) (w := wX cy ad st) (rest := []) SF (c_X10_set l D cy tz ad st (xs (x3 + 1).toNatClampNeg) (xs (x3 + 2).toNatClampNeg) _ (hop st mt (jm i0) (jm i1) (xs (x3 + 1).toNatClampNeg) (xs (x3 + 2).toNatClampNeg) hLR)) (cw_RL_13 hts ⟨Nat.le_of_ble_eq_true rfl, Nat.le_of_ble_eq_true rfl⟩) rfl rfl (va_recv hK hPx (ci := 9) (q0 := 0) rfl rfl) hK hZ hA hP hD hS rfl hl.1 rfl (Nat.le_of_ble_eq_true rfl) dL_law_167 hcl0 (fun r1 u1 H locs h hP hD hS => ?_)
  have hP : va_P D vwCl (wA cy ad bd u1 mt f i0 i1) H := va_P.swap hP
  have hD : va_D (lwA s) (wA cy ad bd u1 mt f i0 i1) := va_D.swap hD
  refine lv_aload_n hx hb dL_law_170 rfl (lv_at hl 2 rfl) ?_
  refine lv_aload_n hx hb dL_law_171 rfl (lv_at hl 0 rfl) ?_
  refine lv_iload_n hx hb dL_law_172 rfl (lv_at hl 3 rfl) ?_
  refine lv_iconst (v := 1) hx hb dL_law_173 (by decide) ?_
  refine lv_iadd hx hb dL_law_174 ?_
  refine va_sld hx hb hX hbl hbA hS hi1 dL_law_175 ?_
  refine lv_aload_n hx hb dL_law_176 rfl (lv_at hl 0 rfl) ?_
  refine lv_iload_n hx hb dL_law_177 rfl (lv_at hl 3 rfl) ?_
  refine lv_iconst (v := 2) hx hb dL_law_178 (by decide) ?_
  refine lv_iadd hx hb dL_law_179 ?_
  refine va_sld hx hb hX hbl hbA hS hi2 dL_law_180 ?_
  obtain ⟨hPm, hDm⟩ := part_r (r := wR cy ad f i0 i1 ++ wX cy ad u1) hP hD
  refine callTI (r := wR cy ad f i0 i1 ++ wX cy ad u1) (w := wM cy bd mt) (rest := [.int r1]) SF (c_X11_set l D cy tz bd mt (xs (x3 + 1).toNatClampNeg) (xs (x3 + 2).toNatClampNeg) _ h) (cw_RL_17 hts ⟨Nat.le_of_ble_eq_true rfl, Nat.le_of_ble_eq_true rfl⟩) rfl rfl (va_recv hK hPm (ci := 10) (q0 := 0) rfl rfl) hK hZ hA hP hD hS rfl hl.1 rfl (Nat.le_of_ble_eq_true rfl) dL_law_181 hcl0 (fun r2 u2 H locs h hP hD hS => ?_)
  refine lv_icmp_eq (tgt := 1069) hx hb dL_law_184 (by decide) (fun c1 => ?_) (fun c1 => ?_)
  · refine W.widen (k := cells + 10) (n := slots + 122) (by omega) (by omega) ?_
    exact next u1 u2 f i0 i1 H locs h.2 hf hP hD hS
  · exact absurd h.1 c1
set_option maxHeartbeats 4000000 in
set_option maxRecDepth 100000 in
theorem lo_say {p : Program} {l : Launch} {e : Env} {s : State} {m : MethodId} {below : List Frame} {meth : Method} {c : Code} {D : va_G} {cy : Nat → ClassId} {tz : Nat → Nat} {b L : Nat} {xs : Nat → Int32} {LR : St → Option St → Option St → St → Prop} {ad bd : Nat → Nat} {st mt : St} {f : Nat → Option Nat} {i0 i1 : Im} {x3 : Int32} {j : Nat} {H : Heap} {locs : List Loc} {ls : Array Slot} {cells slots : Nat} {Q : State → Prop} (hL : L ≤ 3584) (hC : Lc p s m meth c D cy tz b L xs) (hop : ∀ (st mt : St) (j0 j1 : Option St) (a1 : Int32), LR st j0 j1 mt → wp_X10_say st a1 (fun r st' => wp_X11_say mt a1 (fun r' mt' => r = r' ∧ LR st' j0 j1 mt'))) (hx3 : x3 = nI (7 * j)) (hj : 7 * j + 7 ≤ L) (hcl : cells + 10 ≤ 600000) (hsl : slots + 122 ≤ 7302250) (hLR : LR st (jm i0) (jm i1) mt) (hf : fOk f i0 i1) (hP : va_P D vwCl (wA cy ad bd st mt f i0 i1) H) (hD : va_D (lwA s) (wA cy ad bd st mt f i0 i1)) (hS : va_S (lwA s) s.heap H locs) (hl : lv_has ls 4 [(0, .ref b), (1, .ref (ad 0)), (2, .ref (bd 0)), (3, .int x3)]) (next : ∀ (st2 mt2 : St) (f2 : Nat → Option Nat) (k0 k1 : Im) (H : Heap) (locs : List Loc), LR st2 (jm k0) (jm k1) mt2 → fOk f2 k0 k1 → va_P D vwCl (wA cy ad bd st2 mt2 f2 k0 k1) H → va_D (lwA s) (wA cy ad bd st2 mt2 f2 k0 k1) → va_S (lwA s) s.heap H locs → W p l e room_1 s m #[Value.ref b] below meth c H locs (cells + 10) (slots + 122) Q (F0 m 1069 ls [])) : W p l e room_1 s m #[Value.ref b] below meth c H locs cells slots Q (F0 m 189 ls []) := by
  obtain ⟨hx, hb, hr, hml, hown, hts, hX, hbl, hlocks, hK, hZ, hXX⟩ := hC
  have hA : ∀ q : Nat, s.heap.size ≤ q → lwA s q := fun _ h => h
  have hbA : ¬ lwA s b := Nat.not_le.mpr hbl
  have SF : CallFix p m c code 4 s #[Value.ref b] wsL_law RL := ⟨hx, hb, hml, hown, hts⟩
  have hi1 : vp_in (x3 + 1) L := lw_in hL hx3 hj (k := 1) (by decide)
  have hcl0 : cells ≤ room_1.cells ∧ slots ≤ room_1.slots := ⟨show cells ≤ 600000 by omega, show slots ≤ 7302250 by omega⟩
  refine lv_aload_n hx hb dL_law_189 rfl (lv_at hl 1 rfl) ?_
  refine lv_aload_n hx hb dL_law_190 rfl (lv_at hl 0 rfl) ?_
  refine lv_iload_n hx hb dL_law_191 rfl (lv_at hl 3 rfl) ?_
  refine lv_iconst (v := 1) hx hb dL_law_192 (by decide) ?_
  refine lv_iadd hx hb dL_law_193 ?_
  refine va_sld hx hb hX hbl hbA hS hi1 dL_law_194 ?_
  have hP : va_P D vwCl (wB cy ad bd st mt f i0 i1) H := va_P.swap hP
  have hD : va_D (lwA s) (wB cy ad bd st mt f i0 i1) := va_D.swap hD
  obtain ⟨hPx, hDx⟩ := part_r (r := wR cy ad f i0 i1 ++ wM cy bd mt) hP hD
  refine callTI (r := wR cy ad f i0 i1 ++ wM cy bd mt) (w := wX cy ad st) (rest := []) SF (c_X10_say l D cy tz ad st (xs (x3 + 1).toNatClampNeg) _ (hop st mt (jm i0) (jm i1) (xs (x3 + 1).toNatClampNeg) hLR)) (cw_RL_18 hts ⟨Nat.le_of_ble_eq_true rfl, Nat.le_of_ble_eq_true rfl⟩) rfl rfl (va_recv hK hPx (ci := 9) (q0 := 0) rfl rfl) hK hZ hA hP hD hS rfl hl.1 rfl (Nat.le_of_ble_eq_true rfl) dL_law_195 hcl0 (fun r1 u1 H locs h hP hD hS => ?_)
  have hP : va_P D vwCl (wA cy ad bd u1 mt f i0 i1) H := va_P.swap hP
  have hD : va_D (lwA s) (wA cy ad bd u1 mt f i0 i1) := va_D.swap hD
  refine lv_aload_n hx hb dL_law_198 rfl (lv_at hl 2 rfl) ?_
  refine lv_aload_n hx hb dL_law_199 rfl (lv_at hl 0 rfl) ?_
  refine lv_iload_n hx hb dL_law_200 rfl (lv_at hl 3 rfl) ?_
  refine lv_iconst (v := 1) hx hb dL_law_201 (by decide) ?_
  refine lv_iadd hx hb dL_law_202 ?_
  refine va_sld hx hb hX hbl hbA hS hi1 dL_law_203 ?_
  obtain ⟨hPm, hDm⟩ := part_r (r := wR cy ad f i0 i1 ++ wX cy ad u1) hP hD
  refine callTI (r := wR cy ad f i0 i1 ++ wX cy ad u1) (w := wM cy bd mt) (rest := [.int r1]) SF (c_X11_say l D cy tz bd mt (xs (x3 + 1).toNatClampNeg) _ h) (cw_RL_22 hts ⟨Nat.le_of_ble_eq_true rfl, Nat.le_of_ble_eq_true rfl⟩) rfl rfl (va_recv hK hPm (ci := 10) (q0 := 0) rfl rfl) hK hZ hA hP hD hS rfl hl.1 rfl (Nat.le_of_ble_eq_true rfl) dL_law_204 hcl0 (fun r2 u2 H locs h hP hD hS => ?_)
  refine lv_icmp_eq (tgt := 1069) hx hb dL_law_207 (by decide) (fun c1 => ?_) (fun c1 => ?_)
  · refine W.widen (k := cells + 10) (n := slots + 122) (by omega) (by omega) ?_
    exact next u1 u2 f i0 i1 H locs h.2 hf hP hD hS
  · exact absurd h.1 c1
set_option maxHeartbeats 4000000 in
set_option maxRecDepth 100000 in
theorem lo_wipe {p : Program} {l : Launch} {e : Env} {s : State} {m : MethodId} {below : List Frame} {meth : Method} {c : Code} {D : va_G} {cy : Nat → ClassId} {tz : Nat → Nat} {b L : Nat} {xs : Nat → Int32} {LR : St → Option St → Option St → St → Prop} {ad bd : Nat → Nat} {st mt : St} {f : Nat → Option Nat} {i0 i1 : Im} {x3 : Int32} {j : Nat} {H : Heap} {locs : List Loc} {ls : Array Slot} {cells slots : Nat} {Q : State → Prop} (hL : L ≤ 3584) (hC : Lc p s m meth c D cy tz b L xs) (hop : ∀ (st mt : St) (j0 j1 : Option St), LR st j0 j1 mt → wp_X10_wipe st (fun r st' => wp_X11_wipe mt (fun r' mt' => r = r' ∧ LR st' j0 j1 mt'))) (hx3 : x3 = nI (7 * j)) (hj : 7 * j + 7 ≤ L) (hcl : cells + 10 ≤ 600000) (hsl : slots + 122 ≤ 7302250) (hLR : LR st (jm i0) (jm i1) mt) (hf : fOk f i0 i1) (hP : va_P D vwCl (wA cy ad bd st mt f i0 i1) H) (hD : va_D (lwA s) (wA cy ad bd st mt f i0 i1)) (hS : va_S (lwA s) s.heap H locs) (hl : lv_has ls 4 [(0, .ref b), (1, .ref (ad 0)), (2, .ref (bd 0)), (3, .int x3)]) (next : ∀ (st2 mt2 : St) (f2 : Nat → Option Nat) (k0 k1 : Im) (H : Heap) (locs : List Loc), LR st2 (jm k0) (jm k1) mt2 → fOk f2 k0 k1 → va_P D vwCl (wA cy ad bd st2 mt2 f2 k0 k1) H → va_D (lwA s) (wA cy ad bd st2 mt2 f2 k0 k1) → va_S (lwA s) s.heap H locs → W p l e room_1 s m #[Value.ref b] below meth c H locs (cells + 10) (slots + 122) Q (F0 m 1069 ls [])) : W p l e room_1 s m #[Value.ref b] below meth c H locs cells slots Q (F0 m 212 ls []) := by
  obtain ⟨hx, hb, hr, hml, hown, hts, hX, hbl, hlocks, hK, hZ, hXX⟩ := hC
  have hA : ∀ q : Nat, s.heap.size ≤ q → lwA s q := fun _ h => h
  have hbA : ¬ lwA s b := Nat.not_le.mpr hbl
  have SF : CallFix p m c code 4 s #[Value.ref b] wsL_law RL := ⟨hx, hb, hml, hown, hts⟩
  have hcl0 : cells ≤ room_1.cells ∧ slots ≤ room_1.slots := ⟨show cells ≤ 600000 by omega, show slots ≤ 7302250 by omega⟩
  refine lv_aload_n hx hb dL_law_212 rfl (lv_at hl 1 rfl) ?_
  have hP : va_P D vwCl (wB cy ad bd st mt f i0 i1) H := va_P.swap hP
  have hD : va_D (lwA s) (wB cy ad bd st mt f i0 i1) := va_D.swap hD
  obtain ⟨hPx, hDx⟩ := part_r (r := wR cy ad f i0 i1 ++ wM cy bd mt) hP hD
  refine callTI (r := wR cy ad f i0 i1 ++ wM cy bd mt) (w := wX cy ad st) (rest := []) SF (c_X10_wipe l D cy tz ad st _ (hop st mt (jm i0) (jm i1) hLR)) (cw_RL_23 hts ⟨Nat.le_of_ble_eq_true rfl, Nat.le_of_ble_eq_true rfl⟩) rfl rfl (va_recv hK hPx (ci := 9) (q0 := 0) rfl rfl) hK hZ hA hP hD hS rfl hl.1 rfl (Nat.le_of_ble_eq_true rfl) dL_law_213 hcl0 (fun r1 u1 H locs h hP hD hS => ?_)
  have hP : va_P D vwCl (wA cy ad bd u1 mt f i0 i1) H := va_P.swap hP
  have hD : va_D (lwA s) (wA cy ad bd u1 mt f i0 i1) := va_D.swap hD
  refine lv_aload_n hx hb dL_law_216 rfl (lv_at hl 2 rfl) ?_
  obtain ⟨hPm, hDm⟩ := part_r (r := wR cy ad f i0 i1 ++ wX cy ad u1) hP hD
  refine callTI (r := wR cy ad f i0 i1 ++ wX cy ad u1) (w := wM cy bd mt) (rest := [.int r1]) SF (c_X11_wipe l D cy tz bd mt _ h) (cw_RL_27 hts ⟨Nat.le_of_ble_eq_true rfl, Nat.le_of_ble_eq_true rfl⟩) rfl rfl (va_recv hK hPm (ci := 10) (q0 := 0) rfl rfl) hK hZ hA hP hD hS rfl hl.1 rfl (Nat.le_of_ble_eq_true rfl) dL_law_217 hcl0 (fun r2 u2 H locs h hP hD hS => ?_)
  refine lv_icmp_eq (tgt := 1069) hx hb dL_law_220 (by decide) (fun c1 => ?_) (fun c1 => ?_)
  · refine W.widen (k := cells + 10) (n := slots + 122) (by omega) (by omega) ?_
    exact next u1 u2 f i0 i1 H locs h.2 hf hP hD hS
  · exact absurd h.1 c1
set_option maxHeartbeats 4000000 in
set_option maxRecDepth 100000 in
theorem lo_fault {p : Program} {l : Launch} {e : Env} {s : State} {m : MethodId} {below : List Frame} {meth : Method} {c : Code} {D : va_G} {cy : Nat → ClassId} {tz : Nat → Nat} {b L : Nat} {xs : Nat → Int32} {LR : St → Option St → Option St → St → Prop} {ad bd : Nat → Nat} {st mt : St} {f : Nat → Option Nat} {i0 i1 : Im} {x3 : Int32} {j : Nat} {H : Heap} {locs : List Loc} {ls : Array Slot} {cells slots : Nat} {Q : State → Prop} (hL : L ≤ 3584) (hC : Lc p s m meth c D cy tz b L xs) (hop : ∀ (st mt : St) (j0 j1 : Option St), LR st j0 j1 mt → wp_X10_fault st (fun r => wp_X11_fault mt (fun r' => r = r' ∧ LR st j0 j1 mt))) (hx3 : x3 = nI (7 * j)) (hj : 7 * j + 7 ≤ L) (hcl : cells + 10 ≤ 600000) (hsl : slots + 122 ≤ 7302250) (hLR : LR st (jm i0) (jm i1) mt) (hf : fOk f i0 i1) (hP : va_P D vwCl (wA cy ad bd st mt f i0 i1) H) (hD : va_D (lwA s) (wA cy ad bd st mt f i0 i1)) (hS : va_S (lwA s) s.heap H locs) (hl : lv_has ls 4 [(0, .ref b), (1, .ref (ad 0)), (2, .ref (bd 0)), (3, .int x3)]) (next : ∀ (st2 mt2 : St) (f2 : Nat → Option Nat) (k0 k1 : Im) (H : Heap) (locs : List Loc), LR st2 (jm k0) (jm k1) mt2 → fOk f2 k0 k1 → va_P D vwCl (wA cy ad bd st2 mt2 f2 k0 k1) H → va_D (lwA s) (wA cy ad bd st2 mt2 f2 k0 k1) → va_S (lwA s) s.heap H locs → W p l e room_1 s m #[Value.ref b] below meth c H locs (cells + 10) (slots + 122) Q (F0 m 1069 ls [])) : W p l e room_1 s m #[Value.ref b] below meth c H locs cells slots Q (F0 m 225 ls []) := by
  obtain ⟨hx, hb, hr, hml, hown, hts, hX, hbl, hlocks, hK, hZ, hXX⟩ := hC
  have hA : ∀ q : Nat, s.heap.size ≤ q → lwA s q := fun _ h => h
  have hbA : ¬ lwA s b := Nat.not_le.mpr hbl
  have SF : CallFix p m c code 4 s #[Value.ref b] wsL_law RL := ⟨hx, hb, hml, hown, hts⟩
  have hcl0 : cells ≤ room_1.cells ∧ slots ≤ room_1.slots := ⟨show cells ≤ 600000 by omega, show slots ≤ 7302250 by omega⟩
  refine lv_aload_n hx hb dL_law_225 rfl (lv_at hl 1 rfl) ?_
  have hP : va_P D vwCl (wB cy ad bd st mt f i0 i1) H := va_P.swap hP
  have hD : va_D (lwA s) (wB cy ad bd st mt f i0 i1) := va_D.swap hD
  obtain ⟨hPx, hDx⟩ := part_r (r := wR cy ad f i0 i1 ++ wM cy bd mt) hP hD
  refine callTI (r := wR cy ad f i0 i1 ++ wM cy bd mt) (w := wX cy ad st) (rest := []) SF (c_X10_fault l D cy tz ad st _ (hop st mt (jm i0) (jm i1) hLR)) (cw_RL_28 hts ⟨Nat.le_of_ble_eq_true rfl, Nat.le_of_ble_eq_true rfl⟩) rfl rfl (va_recv hK hPx (ci := 9) (q0 := 0) rfl rfl) hK hZ hA hP hD hS rfl hl.1 rfl (Nat.le_of_ble_eq_true rfl) dL_law_226 hcl0 (fun r1 u1 H locs h hP hD hS => ?_)
  have hP : va_P D vwCl (wA cy ad bd st mt f i0 i1) H := va_P.swap hP
  have hD : va_D (lwA s) (wA cy ad bd st mt f i0 i1) := va_D.swap hD
  refine lv_aload_n hx hb dL_law_229 rfl (lv_at hl 2 rfl) ?_
  obtain ⟨hPm, hDm⟩ := part_r (r := wR cy ad f i0 i1 ++ wX cy ad st) hP hD
  refine callTI (r := wR cy ad f i0 i1 ++ wX cy ad st) (w := wM cy bd mt) (rest := [.int r1]) SF (c_X11_fault l D cy tz bd mt _ h) (cw_RL_31 hts ⟨Nat.le_of_ble_eq_true rfl, Nat.le_of_ble_eq_true rfl⟩) rfl rfl (va_recv hK hPm (ci := 10) (q0 := 0) rfl rfl) hK hZ hA hP hD hS rfl hl.1 rfl (Nat.le_of_ble_eq_true rfl) dL_law_230 hcl0 (fun r2 u2 H locs h hP hD hS => ?_)
  refine lv_icmp_eq (tgt := 1069) hx hb dL_law_233 (by decide) (fun c1 => ?_) (fun c1 => ?_)
  · refine W.widen (k := cells + 10) (n := slots + 122) (by omega) (by omega) ?_
    exact next st mt f i0 i1 H locs h.2 hf hP hD hS
  · exact absurd h.1 c1
set_option maxHeartbeats 4000000 in
set_option maxRecDepth 100000 in
theorem lo_push {p : Program} {l : Launch} {e : Env} {s : State} {m : MethodId} {below : List Frame} {meth : Method} {c : Code} {D : va_G} {cy : Nat → ClassId} {tz : Nat → Nat} {b L : Nat} {xs : Nat → Int32} {LR : St → Option St → Option St → St → Prop} {ad bd : Nat → Nat} {st mt : St} {f : Nat → Option Nat} {i0 i1 : Im} {x3 : Int32} {j : Nat} {H : Heap} {locs : List Loc} {ls : Array Slot} {cells slots : Nat} {Q : State → Prop} (hL : L ≤ 3584) (hC : Lc p s m meth c D cy tz b L xs) (hop : ∀ (st mt : St) (j0 j1 : Option St), LR st j0 j1 mt → wp_X10_push st (fun r st' => wp_X11_push mt (fun r' mt' => r = r' ∧ LR st' j0 j1 mt'))) (hx3 : x3 = nI (7 * j)) (hj : 7 * j + 7 ≤ L) (hcl : cells + 10 ≤ 600000) (hsl : slots + 122 ≤ 7302250) (hLR : LR st (jm i0) (jm i1) mt) (hf : fOk f i0 i1) (hP : va_P D vwCl (wA cy ad bd st mt f i0 i1) H) (hD : va_D (lwA s) (wA cy ad bd st mt f i0 i1)) (hS : va_S (lwA s) s.heap H locs) (hl : lv_has ls 4 [(0, .ref b), (1, .ref (ad 0)), (2, .ref (bd 0)), (3, .int x3)]) (next : ∀ (st2 mt2 : St) (f2 : Nat → Option Nat) (k0 k1 : Im) (H : Heap) (locs : List Loc), LR st2 (jm k0) (jm k1) mt2 → fOk f2 k0 k1 → va_P D vwCl (wA cy ad bd st2 mt2 f2 k0 k1) H → va_D (lwA s) (wA cy ad bd st2 mt2 f2 k0 k1) → va_S (lwA s) s.heap H locs → W p l e room_1 s m #[Value.ref b] below meth c H locs (cells + 10) (slots + 122) Q (F0 m 1069 ls [])) : W p l e room_1 s m #[Value.ref b] below meth c H locs cells slots Q (F0 m 238 ls []) := by
  obtain ⟨hx, hb, hr, hml, hown, hts, hX, hbl, hlocks, hK, hZ, hXX⟩ := hC
  have hA : ∀ q : Nat, s.heap.size ≤ q → lwA s q := fun _ h => h
  have hbA : ¬ lwA s b := Nat.not_le.mpr hbl
  have SF : CallFix p m c code 4 s #[Value.ref b] wsL_law RL := ⟨hx, hb, hml, hown, hts⟩
  have hcl0 : cells ≤ room_1.cells ∧ slots ≤ room_1.slots := ⟨show cells ≤ 600000 by omega, show slots ≤ 7302250 by omega⟩
  refine lv_aload_n hx hb dL_law_238 rfl (lv_at hl 1 rfl) ?_
  have hP : va_P D vwCl (wB cy ad bd st mt f i0 i1) H := va_P.swap hP
  have hD : va_D (lwA s) (wB cy ad bd st mt f i0 i1) := va_D.swap hD
  obtain ⟨hPx, hDx⟩ := part_r (r := wR cy ad f i0 i1 ++ wM cy bd mt) hP hD
  refine callTI (r := wR cy ad f i0 i1 ++ wM cy bd mt) (w := wX cy ad st) (rest := []) SF (c_X10_push l D cy tz ad st _ (hop st mt (jm i0) (jm i1) hLR)) (cw_RL_32 hts ⟨Nat.le_of_ble_eq_true rfl, Nat.le_of_ble_eq_true rfl⟩) rfl rfl (va_recv hK hPx (ci := 9) (q0 := 0) rfl rfl) hK hZ hA hP hD hS rfl hl.1 rfl (Nat.le_of_ble_eq_true rfl) dL_law_239 hcl0 (fun r1 u1 H locs h hP hD hS => ?_)
  have hP : va_P D vwCl (wA cy ad bd u1 mt f i0 i1) H := va_P.swap hP
  have hD : va_D (lwA s) (wA cy ad bd u1 mt f i0 i1) := va_D.swap hD
  refine lv_aload_n hx hb dL_law_242 rfl (lv_at hl 2 rfl) ?_
  obtain ⟨hPm, hDm⟩ := part_r (r := wR cy ad f i0 i1 ++ wX cy ad u1) hP hD
  refine callTI (r := wR cy ad f i0 i1 ++ wX cy ad u1) (w := wM cy bd mt) (rest := [.int r1]) SF (c_X11_push l D cy tz bd mt _ h) (cw_RL_35 hts ⟨Nat.le_of_ble_eq_true rfl, Nat.le_of_ble_eq_true rfl⟩) rfl rfl (va_recv hK hPm (ci := 10) (q0 := 0) rfl rfl) hK hZ hA hP hD hS rfl hl.1 rfl (Nat.le_of_ble_eq_true rfl) dL_law_243 hcl0 (fun r2 u2 H locs h hP hD hS => ?_)
  refine lv_icmp_eq (tgt := 1069) hx hb dL_law_246 (by decide) (fun c1 => ?_) (fun c1 => ?_)
  · refine W.widen (k := cells + 10) (n := slots + 122) (by omega) (by omega) ?_
    exact next u1 u2 f i0 i1 H locs h.2 hf hP hD hS
  · exact absurd h.1 c1
set_option maxHeartbeats 4000000 in
set_option maxRecDepth 100000 in
theorem lo_turn {p : Program} {l : Launch} {e : Env} {s : State} {m : MethodId} {below : List Frame} {meth : Method} {c : Code} {D : va_G} {cy : Nat → ClassId} {tz : Nat → Nat} {b L : Nat} {xs : Nat → Int32} {LR : St → Option St → Option St → St → Prop} {ad bd : Nat → Nat} {st mt : St} {f : Nat → Option Nat} {i0 i1 : Im} {x3 : Int32} {j : Nat} {H : Heap} {locs : List Loc} {ls : Array Slot} {cells slots : Nat} {Q : State → Prop} (hL : L ≤ 3584) (hC : Lc p s m meth c D cy tz b L xs) (hop : ∀ (st mt : St) (j0 j1 : Option St) (a1 : Int32) (a2 : Int32), LR st j0 j1 mt → wp_X10_turn st a1 a2 (fun r st' => wp_X11_turn mt a1 a2 (fun r' mt' => r = r' ∧ LR st' j0 j1 mt'))) (hx3 : x3 = nI (7 * j)) (hj : 7 * j + 7 ≤ L) (hcl : cells + 10 ≤ 600000) (hsl : slots + 122 ≤ 7302250) (hLR : LR st (jm i0) (jm i1) mt) (hf : fOk f i0 i1) (hP : va_P D vwCl (wA cy ad bd st mt f i0 i1) H) (hD : va_D (lwA s) (wA cy ad bd st mt f i0 i1)) (hS : va_S (lwA s) s.heap H locs) (hl : lv_has ls 4 [(0, .ref b), (1, .ref (ad 0)), (2, .ref (bd 0)), (3, .int x3)]) (next : ∀ (st2 mt2 : St) (f2 : Nat → Option Nat) (k0 k1 : Im) (H : Heap) (locs : List Loc), LR st2 (jm k0) (jm k1) mt2 → fOk f2 k0 k1 → va_P D vwCl (wA cy ad bd st2 mt2 f2 k0 k1) H → va_D (lwA s) (wA cy ad bd st2 mt2 f2 k0 k1) → va_S (lwA s) s.heap H locs → W p l e room_1 s m #[Value.ref b] below meth c H locs (cells + 10) (slots + 122) Q (F0 m 1069 ls [])) : W p l e room_1 s m #[Value.ref b] below meth c H locs cells slots Q (F0 m 251 ls []) := by
  obtain ⟨hx, hb, hr, hml, hown, hts, hX, hbl, hlocks, hK, hZ, hXX⟩ := hC
  have hA : ∀ q : Nat, s.heap.size ≤ q → lwA s q := fun _ h => h
  have hbA : ¬ lwA s b := Nat.not_le.mpr hbl
  have SF : CallFix p m c code 4 s #[Value.ref b] wsL_law RL := ⟨hx, hb, hml, hown, hts⟩
  have hi1 : vp_in (x3 + 1) L := lw_in hL hx3 hj (k := 1) (by decide)
  have hi2 : vp_in (x3 + 2) L := lw_in hL hx3 hj (k := 2) (by decide)
  have hcl0 : cells ≤ room_1.cells ∧ slots ≤ room_1.slots := ⟨show cells ≤ 600000 by omega, show slots ≤ 7302250 by omega⟩
  refine lv_aload_n hx hb dL_law_251 rfl (lv_at hl 1 rfl) ?_
  refine lv_aload_n hx hb dL_law_252 rfl (lv_at hl 0 rfl) ?_
  refine lv_iload_n hx hb dL_law_253 rfl (lv_at hl 3 rfl) ?_
  refine lv_iconst (v := 1) hx hb dL_law_254 (by decide) ?_
  refine lv_iadd hx hb dL_law_255 ?_
  refine va_sld hx hb hX hbl hbA hS hi1 dL_law_256 ?_
  refine lv_aload_n hx hb dL_law_257 rfl (lv_at hl 0 rfl) ?_
  refine lv_iload_n hx hb dL_law_258 rfl (lv_at hl 3 rfl) ?_
  refine lv_iconst (v := 2) hx hb dL_law_259 (by decide) ?_
  refine lv_iadd hx hb dL_law_260 ?_
  refine va_sld hx hb hX hbl hbA hS hi2 dL_law_261 ?_
  have hP : va_P D vwCl (wB cy ad bd st mt f i0 i1) H := va_P.swap hP
  have hD : va_D (lwA s) (wB cy ad bd st mt f i0 i1) := va_D.swap hD
  obtain ⟨hPx, hDx⟩ := part_r (r := wR cy ad f i0 i1 ++ wM cy bd mt) hP hD
  refine callTI (r := wR cy ad f i0 i1 ++ wM cy bd mt) (w := wX cy ad st) (rest := []) SF (c_X10_turn l D cy tz ad st (xs (x3 + 1).toNatClampNeg) (xs (x3 + 2).toNatClampNeg) _ (hop st mt (jm i0) (jm i1) (xs (x3 + 1).toNatClampNeg) (xs (x3 + 2).toNatClampNeg) hLR)) (cw_RL_36 hts ⟨Nat.le_of_ble_eq_true rfl, Nat.le_of_ble_eq_true rfl⟩) rfl rfl (va_recv hK hPx (ci := 9) (q0 := 0) rfl rfl) hK hZ hA hP hD hS rfl hl.1 rfl (Nat.le_of_ble_eq_true rfl) dL_law_262 hcl0 (fun r1 u1 H locs h hP hD hS => ?_)
  have hP : va_P D vwCl (wA cy ad bd u1 mt f i0 i1) H := va_P.swap hP
  have hD : va_D (lwA s) (wA cy ad bd u1 mt f i0 i1) := va_D.swap hD
  refine lv_aload_n hx hb dL_law_265 rfl (lv_at hl 2 rfl) ?_
  refine lv_aload_n hx hb dL_law_266 rfl (lv_at hl 0 rfl) ?_
  refine lv_iload_n hx hb dL_law_267 rfl (lv_at hl 3 rfl) ?_
  refine lv_iconst (v := 1) hx hb dL_law_268 (by decide) ?_
  refine lv_iadd hx hb dL_law_269 ?_
  refine va_sld hx hb hX hbl hbA hS hi1 dL_law_270 ?_
  refine lv_aload_n hx hb dL_law_271 rfl (lv_at hl 0 rfl) ?_
  refine lv_iload_n hx hb dL_law_272 rfl (lv_at hl 3 rfl) ?_
  refine lv_iconst (v := 2) hx hb dL_law_273 (by decide) ?_
  refine lv_iadd hx hb dL_law_274 ?_
  refine va_sld hx hb hX hbl hbA hS hi2 dL_law_275 ?_
  obtain ⟨hPm, hDm⟩ := part_r (r := wR cy ad f i0 i1 ++ wX cy ad u1) hP hD
  refine callTI (r := wR cy ad f i0 i1 ++ wX cy ad u1) (w := wM cy bd mt) (rest := [.int r1]) SF (c_X11_turn l D cy tz bd mt (xs (x3 + 1).toNatClampNeg) (xs (x3 + 2).toNatClampNeg) _ h) (cw_RL_39 hts ⟨Nat.le_of_ble_eq_true rfl, Nat.le_of_ble_eq_true rfl⟩) rfl rfl (va_recv hK hPm (ci := 10) (q0 := 0) rfl rfl) hK hZ hA hP hD hS rfl hl.1 rfl (Nat.le_of_ble_eq_true rfl) dL_law_276 hcl0 (fun r2 u2 H locs h hP hD hS => ?_)
  refine lv_icmp_eq (tgt := 1069) hx hb dL_law_279 (by decide) (fun c1 => ?_) (fun c1 => ?_)
  · refine W.widen (k := cells + 10) (n := slots + 122) (by omega) (by omega) ?_
    exact next u1 u2 f i0 i1 H locs h.2 hf hP hD hS
  · exact absurd h.1 c1
set_option maxHeartbeats 4000000 in
set_option maxRecDepth 100000 in
theorem lo_sit {p : Program} {l : Launch} {e : Env} {s : State} {m : MethodId} {below : List Frame} {meth : Method} {c : Code} {D : va_G} {cy : Nat → ClassId} {tz : Nat → Nat} {b L : Nat} {xs : Nat → Int32} {LR : St → Option St → Option St → St → Prop} {ad bd : Nat → Nat} {st mt : St} {f : Nat → Option Nat} {i0 i1 : Im} {x3 : Int32} {j : Nat} {H : Heap} {locs : List Loc} {ls : Array Slot} {cells slots : Nat} {Q : State → Prop} (hL : L ≤ 3584) (hC : Lc p s m meth c D cy tz b L xs) (hop : ∀ (st mt : St) (j0 j1 : Option St) (a1 : Int32) (a2 : Int32), LR st j0 j1 mt → wp_X10_sit st a1 a2 (fun r st' => wp_X11_sit mt a1 a2 (fun r' mt' => r = r' ∧ LR st' j0 j1 mt'))) (hx3 : x3 = nI (7 * j)) (hj : 7 * j + 7 ≤ L) (hcl : cells + 10 ≤ 600000) (hsl : slots + 122 ≤ 7302250) (hLR : LR st (jm i0) (jm i1) mt) (hf : fOk f i0 i1) (hP : va_P D vwCl (wA cy ad bd st mt f i0 i1) H) (hD : va_D (lwA s) (wA cy ad bd st mt f i0 i1)) (hS : va_S (lwA s) s.heap H locs) (hl : lv_has ls 4 [(0, .ref b), (1, .ref (ad 0)), (2, .ref (bd 0)), (3, .int x3)]) (next : ∀ (st2 mt2 : St) (f2 : Nat → Option Nat) (k0 k1 : Im) (H : Heap) (locs : List Loc), LR st2 (jm k0) (jm k1) mt2 → fOk f2 k0 k1 → va_P D vwCl (wA cy ad bd st2 mt2 f2 k0 k1) H → va_D (lwA s) (wA cy ad bd st2 mt2 f2 k0 k1) → va_S (lwA s) s.heap H locs → W p l e room_1 s m #[Value.ref b] below meth c H locs (cells + 10) (slots + 122) Q (F0 m 1069 ls [])) : W p l e room_1 s m #[Value.ref b] below meth c H locs cells slots Q (F0 m 284 ls []) := by
  obtain ⟨hx, hb, hr, hml, hown, hts, hX, hbl, hlocks, hK, hZ, hXX⟩ := hC
  have hA : ∀ q : Nat, s.heap.size ≤ q → lwA s q := fun _ h => h
  have hbA : ¬ lwA s b := Nat.not_le.mpr hbl
  have SF : CallFix p m c code 4 s #[Value.ref b] wsL_law RL := ⟨hx, hb, hml, hown, hts⟩
  have hi1 : vp_in (x3 + 1) L := lw_in hL hx3 hj (k := 1) (by decide)
  have hi2 : vp_in (x3 + 2) L := lw_in hL hx3 hj (k := 2) (by decide)
  have hcl0 : cells ≤ room_1.cells ∧ slots ≤ room_1.slots := ⟨show cells ≤ 600000 by omega, show slots ≤ 7302250 by omega⟩
  refine lv_aload_n hx hb dL_law_284 rfl (lv_at hl 1 rfl) ?_
  refine lv_aload_n hx hb dL_law_285 rfl (lv_at hl 0 rfl) ?_
  refine lv_iload_n hx hb dL_law_286 rfl (lv_at hl 3 rfl) ?_
  refine lv_iconst (v := 1) hx hb dL_law_287 (by decide) ?_
  refine lv_iadd hx hb dL_law_288 ?_
  refine va_sld hx hb hX hbl hbA hS hi1 dL_law_289 ?_
  refine lv_aload_n hx hb dL_law_290 rfl (lv_at hl 0 rfl) ?_
  refine lv_iload_n hx hb dL_law_291 rfl (lv_at hl 3 rfl) ?_
  refine lv_iconst (v := 2) hx hb dL_law_292 (by decide) ?_
  refine lv_iadd hx hb dL_law_293 ?_
  refine va_sld hx hb hX hbl hbA hS hi2 dL_law_294 ?_
  have hP : va_P D vwCl (wB cy ad bd st mt f i0 i1) H := va_P.swap hP
  have hD : va_D (lwA s) (wB cy ad bd st mt f i0 i1) := va_D.swap hD
  obtain ⟨hPx, hDx⟩ := part_r (r := wR cy ad f i0 i1 ++ wM cy bd mt) hP hD
  refine callTI (r := wR cy ad f i0 i1 ++ wM cy bd mt) (w := wX cy ad st) (rest := []) SF (c_X10_sit l D cy tz ad st (xs (x3 + 1).toNatClampNeg) (xs (x3 + 2).toNatClampNeg) _ (hop st mt (jm i0) (jm i1) (xs (x3 + 1).toNatClampNeg) (xs (x3 + 2).toNatClampNeg) hLR)) (cw_RL_40 hts ⟨Nat.le_of_ble_eq_true rfl, Nat.le_of_ble_eq_true rfl⟩) rfl rfl (va_recv hK hPx (ci := 9) (q0 := 0) rfl rfl) hK hZ hA hP hD hS rfl hl.1 rfl (Nat.le_of_ble_eq_true rfl) dL_law_295 hcl0 (fun r1 u1 H locs h hP hD hS => ?_)
  have hP : va_P D vwCl (wA cy ad bd u1 mt f i0 i1) H := va_P.swap hP
  have hD : va_D (lwA s) (wA cy ad bd u1 mt f i0 i1) := va_D.swap hD
  refine lv_aload_n hx hb dL_law_298 rfl (lv_at hl 2 rfl) ?_
  refine lv_aload_n hx hb dL_law_299 rfl (lv_at hl 0 rfl) ?_
  refine lv_iload_n hx hb dL_law_300 rfl (lv_at hl 3 rfl) ?_
  refine lv_iconst (v := 1) hx hb dL_law_301 (by decide) ?_
  refine lv_iadd hx hb dL_law_302 ?_
  refine va_sld hx hb hX hbl hbA hS hi1 dL_law_303 ?_
  refine lv_aload_n hx hb dL_law_304 rfl (lv_at hl 0 rfl) ?_
  refine lv_iload_n hx hb dL_law_305 rfl (lv_at hl 3 rfl) ?_
  refine lv_iconst (v := 2) hx hb dL_law_306 (by decide) ?_
  refine lv_iadd hx hb dL_law_307 ?_
  refine va_sld hx hb hX hbl hbA hS hi2 dL_law_308 ?_
  obtain ⟨hPm, hDm⟩ := part_r (r := wR cy ad f i0 i1 ++ wX cy ad u1) hP hD
  refine callTI (r := wR cy ad f i0 i1 ++ wX cy ad u1) (w := wM cy bd mt) (rest := [.int r1]) SF (c_X11_sit l D cy tz bd mt (xs (x3 + 1).toNatClampNeg) (xs (x3 + 2).toNatClampNeg) _ h) (cw_RL_43 hts ⟨Nat.le_of_ble_eq_true rfl, Nat.le_of_ble_eq_true rfl⟩) rfl rfl (va_recv hK hPm (ci := 10) (q0 := 0) rfl rfl) hK hZ hA hP hD hS rfl hl.1 rfl (Nat.le_of_ble_eq_true rfl) dL_law_309 hcl0 (fun r2 u2 H locs h hP hD hS => ?_)
  refine lv_icmp_eq (tgt := 1069) hx hb dL_law_312 (by decide) (fun c1 => ?_) (fun c1 => ?_)
  · refine W.widen (k := cells + 10) (n := slots + 122) (by omega) (by omega) ?_
    exact next u1 u2 f i0 i1 H locs h.2 hf hP hD hS
  · exact absurd h.1 c1
set_option maxHeartbeats 4000000 in
set_option maxRecDepth 100000 in
theorem lo_point {p : Program} {l : Launch} {e : Env} {s : State} {m : MethodId} {below : List Frame} {meth : Method} {c : Code} {D : va_G} {cy : Nat → ClassId} {tz : Nat → Nat} {b L : Nat} {xs : Nat → Int32} {LR : St → Option St → Option St → St → Prop} {ad bd : Nat → Nat} {st mt : St} {f : Nat → Option Nat} {i0 i1 : Im} {x3 : Int32} {j : Nat} {H : Heap} {locs : List Loc} {ls : Array Slot} {cells slots : Nat} {Q : State → Prop} (hL : L ≤ 3584) (hC : Lc p s m meth c D cy tz b L xs) (hop : ∀ (st mt : St) (j0 j1 : Option St) (a1 : Int32) (a2 : Int32) (a3 : Int32), LR st j0 j1 mt → wp_X10_point st a1 a2 a3 (fun r st' => wp_X11_point mt a1 a2 a3 (fun r' mt' => r = r' ∧ LR st' j0 j1 mt'))) (hx3 : x3 = nI (7 * j)) (hj : 7 * j + 7 ≤ L) (hcl : cells + 10 ≤ 600000) (hsl : slots + 122 ≤ 7302250) (hLR : LR st (jm i0) (jm i1) mt) (hf : fOk f i0 i1) (hP : va_P D vwCl (wA cy ad bd st mt f i0 i1) H) (hD : va_D (lwA s) (wA cy ad bd st mt f i0 i1)) (hS : va_S (lwA s) s.heap H locs) (hl : lv_has ls 4 [(0, .ref b), (1, .ref (ad 0)), (2, .ref (bd 0)), (3, .int x3)]) (next : ∀ (st2 mt2 : St) (f2 : Nat → Option Nat) (k0 k1 : Im) (H : Heap) (locs : List Loc), LR st2 (jm k0) (jm k1) mt2 → fOk f2 k0 k1 → va_P D vwCl (wA cy ad bd st2 mt2 f2 k0 k1) H → va_D (lwA s) (wA cy ad bd st2 mt2 f2 k0 k1) → va_S (lwA s) s.heap H locs → W p l e room_1 s m #[Value.ref b] below meth c H locs (cells + 10) (slots + 122) Q (F0 m 1069 ls [])) : W p l e room_1 s m #[Value.ref b] below meth c H locs cells slots Q (F0 m 317 ls []) := by
  obtain ⟨hx, hb, hr, hml, hown, hts, hX, hbl, hlocks, hK, hZ, hXX⟩ := hC
  have hA : ∀ q : Nat, s.heap.size ≤ q → lwA s q := fun _ h => h
  have hbA : ¬ lwA s b := Nat.not_le.mpr hbl
  have SF : CallFix p m c code 4 s #[Value.ref b] wsL_law RL := ⟨hx, hb, hml, hown, hts⟩
  have hi1 : vp_in (x3 + 1) L := lw_in hL hx3 hj (k := 1) (by decide)
  have hi2 : vp_in (x3 + 2) L := lw_in hL hx3 hj (k := 2) (by decide)
  have hi3 : vp_in (x3 + 3) L := lw_in hL hx3 hj (k := 3) (by decide)
  have hcl0 : cells ≤ room_1.cells ∧ slots ≤ room_1.slots := ⟨show cells ≤ 600000 by omega, show slots ≤ 7302250 by omega⟩
  refine lv_aload_n hx hb dL_law_317 rfl (lv_at hl 1 rfl) ?_
  refine lv_aload_n hx hb dL_law_318 rfl (lv_at hl 0 rfl) ?_
  refine lv_iload_n hx hb dL_law_319 rfl (lv_at hl 3 rfl) ?_
  refine lv_iconst (v := 1) hx hb dL_law_320 (by decide) ?_
  refine lv_iadd hx hb dL_law_321 ?_
  refine va_sld hx hb hX hbl hbA hS hi1 dL_law_322 ?_
  refine lv_aload_n hx hb dL_law_323 rfl (lv_at hl 0 rfl) ?_
  refine lv_iload_n hx hb dL_law_324 rfl (lv_at hl 3 rfl) ?_
  refine lv_iconst (v := 2) hx hb dL_law_325 (by decide) ?_
  refine lv_iadd hx hb dL_law_326 ?_
  refine va_sld hx hb hX hbl hbA hS hi2 dL_law_327 ?_
  refine lv_aload_n hx hb dL_law_328 rfl (lv_at hl 0 rfl) ?_
  refine lv_iload_n hx hb dL_law_329 rfl (lv_at hl 3 rfl) ?_
  refine lv_iconst (v := 3) hx hb dL_law_330 (by decide) ?_
  refine lv_iadd hx hb dL_law_331 ?_
  refine va_sld hx hb hX hbl hbA hS hi3 dL_law_332 ?_
  have hP : va_P D vwCl (wB cy ad bd st mt f i0 i1) H := va_P.swap hP
  have hD : va_D (lwA s) (wB cy ad bd st mt f i0 i1) := va_D.swap hD
  obtain ⟨hPx, hDx⟩ := part_r (r := wR cy ad f i0 i1 ++ wM cy bd mt) hP hD
  refine callTI (r := wR cy ad f i0 i1 ++ wM cy bd mt) (w := wX cy ad st) (rest := []) SF (c_X10_point l D cy tz ad st (xs (x3 + 1).toNatClampNeg) (xs (x3 + 2).toNatClampNeg) (xs (x3 + 3).toNatClampNeg) _ (hop st mt (jm i0) (jm i1) (xs (x3 + 1).toNatClampNeg) (xs (x3 + 2).toNatClampNeg) (xs (x3 + 3).toNatClampNeg) hLR)) (cw_RL_44 hts ⟨Nat.le_of_ble_eq_true rfl, Nat.le_of_ble_eq_true rfl⟩) rfl rfl (va_recv hK hPx (ci := 9) (q0 := 0) rfl rfl) hK hZ hA hP hD hS rfl hl.1 rfl (Nat.le_of_ble_eq_true rfl) dL_law_333 hcl0 (fun r1 u1 H locs h hP hD hS => ?_)
  have hP : va_P D vwCl (wA cy ad bd u1 mt f i0 i1) H := va_P.swap hP
  have hD : va_D (lwA s) (wA cy ad bd u1 mt f i0 i1) := va_D.swap hD
  refine lv_aload_n hx hb dL_law_336 rfl (lv_at hl 2 rfl) ?_
  refine lv_aload_n hx hb dL_law_337 rfl (lv_at hl 0 rfl) ?_
  refine lv_iload_n hx hb dL_law_338 rfl (lv_at hl 3 rfl) ?_
  refine lv_iconst (v := 1) hx hb dL_law_339 (by decide) ?_
  refine lv_iadd hx hb dL_law_340 ?_
  refine va_sld hx hb hX hbl hbA hS hi1 dL_law_341 ?_
  refine lv_aload_n hx hb dL_law_342 rfl (lv_at hl 0 rfl) ?_
  refine lv_iload_n hx hb dL_law_343 rfl (lv_at hl 3 rfl) ?_
  refine lv_iconst (v := 2) hx hb dL_law_344 (by decide) ?_
  refine lv_iadd hx hb dL_law_345 ?_
  refine va_sld hx hb hX hbl hbA hS hi2 dL_law_346 ?_
  refine lv_aload_n hx hb dL_law_347 rfl (lv_at hl 0 rfl) ?_
  refine lv_iload_n hx hb dL_law_348 rfl (lv_at hl 3 rfl) ?_
  refine lv_iconst (v := 3) hx hb dL_law_349 (by decide) ?_
  refine lv_iadd hx hb dL_law_350 ?_
  refine va_sld hx hb hX hbl hbA hS hi3 dL_law_351 ?_
  obtain ⟨hPm, hDm⟩ := part_r (r := wR cy ad f i0 i1 ++ wX cy ad u1) hP hD
  refine callTI (r := wR cy ad f i0 i1 ++ wX cy ad u1) (w := wM cy bd mt) (rest := [.int r1]) SF (c_X11_point l D cy tz bd mt (xs (x3 + 1).toNatClampNeg) (xs (x3 + 2).toNatClampNeg) (xs (x3 + 3).toNatClampNeg) _ h) (cw_RL_48 hts ⟨Nat.le_of_ble_eq_true rfl, Nat.le_of_ble_eq_true rfl⟩) rfl rfl (va_recv hK hPm (ci := 10) (q0 := 0) rfl rfl) hK hZ hA hP hD hS rfl hl.1 rfl (Nat.le_of_ble_eq_true rfl) dL_law_352 hcl0 (fun r2 u2 H locs h hP hD hS => ?_)
  refine lv_icmp_eq (tgt := 1069) hx hb dL_law_355 (by decide) (fun c1 => ?_) (fun c1 => ?_)
  · refine W.widen (k := cells + 10) (n := slots + 122) (by omega) (by omega) ?_
    exact next u1 u2 f i0 i1 H locs h.2 hf hP hD hS
  · exact absurd h.1 c1
set_option maxHeartbeats 4000000 in
set_option maxRecDepth 100000 in
theorem lo_ball {p : Program} {l : Launch} {e : Env} {s : State} {m : MethodId} {below : List Frame} {meth : Method} {c : Code} {D : va_G} {cy : Nat → ClassId} {tz : Nat → Nat} {b L : Nat} {xs : Nat → Int32} {LR : St → Option St → Option St → St → Prop} {ad bd : Nat → Nat} {st mt : St} {f : Nat → Option Nat} {i0 i1 : Im} {x3 : Int32} {j : Nat} {H : Heap} {locs : List Loc} {ls : Array Slot} {cells slots : Nat} {Q : State → Prop} (hL : L ≤ 3584) (hC : Lc p s m meth c D cy tz b L xs) (hop : ∀ (st mt : St) (j0 j1 : Option St) (a1 : Int32) (a2 : Int32) (a3 : Int32) (a4 : Int32) (a5 : Int32), LR st j0 j1 mt → wp_X10_ball st a1 a2 a3 a4 a5 (fun r st' => wp_X11_ball mt a1 a2 a3 a4 a5 (fun r' mt' => r = r' ∧ LR st' j0 j1 mt'))) (hx3 : x3 = nI (7 * j)) (hj : 7 * j + 7 ≤ L) (hcl : cells + 10 ≤ 600000) (hsl : slots + 122 ≤ 7302250) (hLR : LR st (jm i0) (jm i1) mt) (hf : fOk f i0 i1) (hP : va_P D vwCl (wA cy ad bd st mt f i0 i1) H) (hD : va_D (lwA s) (wA cy ad bd st mt f i0 i1)) (hS : va_S (lwA s) s.heap H locs) (hl : lv_has ls 4 [(0, .ref b), (1, .ref (ad 0)), (2, .ref (bd 0)), (3, .int x3)]) (next : ∀ (st2 mt2 : St) (f2 : Nat → Option Nat) (k0 k1 : Im) (H : Heap) (locs : List Loc), LR st2 (jm k0) (jm k1) mt2 → fOk f2 k0 k1 → va_P D vwCl (wA cy ad bd st2 mt2 f2 k0 k1) H → va_D (lwA s) (wA cy ad bd st2 mt2 f2 k0 k1) → va_S (lwA s) s.heap H locs → W p l e room_1 s m #[Value.ref b] below meth c H locs (cells + 10) (slots + 122) Q (F0 m 1069 ls [])) : W p l e room_1 s m #[Value.ref b] below meth c H locs cells slots Q (F0 m 360 ls []) := by
  obtain ⟨hx, hb, hr, hml, hown, hts, hX, hbl, hlocks, hK, hZ, hXX⟩ := hC
  have hA : ∀ q : Nat, s.heap.size ≤ q → lwA s q := fun _ h => h
  have hbA : ¬ lwA s b := Nat.not_le.mpr hbl
  have SF : CallFix p m c code 4 s #[Value.ref b] wsL_law RL := ⟨hx, hb, hml, hown, hts⟩
  have hi1 : vp_in (x3 + 1) L := lw_in hL hx3 hj (k := 1) (by decide)
  have hi2 : vp_in (x3 + 2) L := lw_in hL hx3 hj (k := 2) (by decide)
  have hi3 : vp_in (x3 + 3) L := lw_in hL hx3 hj (k := 3) (by decide)
  have hi4 : vp_in (x3 + 4) L := lw_in hL hx3 hj (k := 4) (by decide)
  have hi5 : vp_in (x3 + 5) L := lw_in hL hx3 hj (k := 5) (by decide)
  have hcl0 : cells ≤ room_1.cells ∧ slots ≤ room_1.slots := ⟨show cells ≤ 600000 by omega, show slots ≤ 7302250 by omega⟩
  refine lv_aload_n hx hb dL_law_360 rfl (lv_at hl 1 rfl) ?_
  refine lv_aload_n hx hb dL_law_361 rfl (lv_at hl 0 rfl) ?_
  refine lv_iload_n hx hb dL_law_362 rfl (lv_at hl 3 rfl) ?_
  refine lv_iconst (v := 1) hx hb dL_law_363 (by decide) ?_
  refine lv_iadd hx hb dL_law_364 ?_
  refine va_sld hx hb hX hbl hbA hS hi1 dL_law_365 ?_
  refine lv_aload_n hx hb dL_law_366 rfl (lv_at hl 0 rfl) ?_
  refine lv_iload_n hx hb dL_law_367 rfl (lv_at hl 3 rfl) ?_
  refine lv_iconst (v := 2) hx hb dL_law_368 (by decide) ?_
  refine lv_iadd hx hb dL_law_369 ?_
  refine va_sld hx hb hX hbl hbA hS hi2 dL_law_370 ?_
  refine lv_aload_n hx hb dL_law_371 rfl (lv_at hl 0 rfl) ?_
  refine lv_iload_n hx hb dL_law_372 rfl (lv_at hl 3 rfl) ?_
  refine lv_iconst (v := 3) hx hb dL_law_373 (by decide) ?_
  refine lv_iadd hx hb dL_law_374 ?_
  refine va_sld hx hb hX hbl hbA hS hi3 dL_law_375 ?_
  refine lv_aload_n hx hb dL_law_376 rfl (lv_at hl 0 rfl) ?_
  refine lv_iload_n hx hb dL_law_377 rfl (lv_at hl 3 rfl) ?_
  refine lv_iconst (v := 4) hx hb dL_law_378 (by decide) ?_
  refine lv_iadd hx hb dL_law_379 ?_
  refine va_sld hx hb hX hbl hbA hS hi4 dL_law_380 ?_
  refine lv_aload_n hx hb dL_law_381 rfl (lv_at hl 0 rfl) ?_
  refine lv_iload_n hx hb dL_law_382 rfl (lv_at hl 3 rfl) ?_
  refine lv_iconst (v := 5) hx hb dL_law_383 (by decide) ?_
  refine lv_iadd hx hb dL_law_384 ?_
  refine va_sld hx hb hX hbl hbA hS hi5 dL_law_385 ?_
  have hP : va_P D vwCl (wB cy ad bd st mt f i0 i1) H := va_P.swap hP
  have hD : va_D (lwA s) (wB cy ad bd st mt f i0 i1) := va_D.swap hD
  obtain ⟨hPx, hDx⟩ := part_r (r := wR cy ad f i0 i1 ++ wM cy bd mt) hP hD
  refine callTI (r := wR cy ad f i0 i1 ++ wM cy bd mt) (w := wX cy ad st) (rest := []) SF (c_X10_ball l D cy tz ad st (xs (x3 + 1).toNatClampNeg) (xs (x3 + 2).toNatClampNeg) (xs (x3 + 3).toNatClampNeg) (xs (x3 + 4).toNatClampNeg) (xs (x3 + 5).toNatClampNeg) _ (hop st mt (jm i0) (jm i1) (xs (x3 + 1).toNatClampNeg) (xs (x3 + 2).toNatClampNeg) (xs (x3 + 3).toNatClampNeg) (xs (x3 + 4).toNatClampNeg) (xs (x3 + 5).toNatClampNeg) hLR)) (cw_RL_49 hts ⟨Nat.le_of_ble_eq_true rfl, Nat.le_of_ble_eq_true rfl⟩) rfl rfl (va_recv hK hPx (ci := 9) (q0 := 0) rfl rfl) hK hZ hA hP hD hS rfl hl.1 rfl (Nat.le_of_ble_eq_true rfl) dL_law_386 hcl0 (fun r1 u1 H locs h hP hD hS => ?_)
  have hP : va_P D vwCl (wA cy ad bd u1 mt f i0 i1) H := va_P.swap hP
  have hD : va_D (lwA s) (wA cy ad bd u1 mt f i0 i1) := va_D.swap hD
  refine lv_aload_n hx hb dL_law_389 rfl (lv_at hl 2 rfl) ?_
  refine lv_aload_n hx hb dL_law_390 rfl (lv_at hl 0 rfl) ?_
  refine lv_iload_n hx hb dL_law_391 rfl (lv_at hl 3 rfl) ?_
  refine lv_iconst (v := 1) hx hb dL_law_392 (by decide) ?_
  refine lv_iadd hx hb dL_law_393 ?_
  refine va_sld hx hb hX hbl hbA hS hi1 dL_law_394 ?_
  refine lv_aload_n hx hb dL_law_395 rfl (lv_at hl 0 rfl) ?_
  refine lv_iload_n hx hb dL_law_396 rfl (lv_at hl 3 rfl) ?_
  refine lv_iconst (v := 2) hx hb dL_law_397 (by decide) ?_
  refine lv_iadd hx hb dL_law_398 ?_
  refine va_sld hx hb hX hbl hbA hS hi2 dL_law_399 ?_
  refine lv_aload_n hx hb dL_law_400 rfl (lv_at hl 0 rfl) ?_
  refine lv_iload_n hx hb dL_law_401 rfl (lv_at hl 3 rfl) ?_
  refine lv_iconst (v := 3) hx hb dL_law_402 (by decide) ?_
  refine lv_iadd hx hb dL_law_403 ?_
  refine va_sld hx hb hX hbl hbA hS hi3 dL_law_404 ?_
  refine lv_aload_n hx hb dL_law_405 rfl (lv_at hl 0 rfl) ?_
  refine lv_iload_n hx hb dL_law_406 rfl (lv_at hl 3 rfl) ?_
  refine lv_iconst (v := 4) hx hb dL_law_407 (by decide) ?_
  refine lv_iadd hx hb dL_law_408 ?_
  refine va_sld hx hb hX hbl hbA hS hi4 dL_law_409 ?_
  refine lv_aload_n hx hb dL_law_410 rfl (lv_at hl 0 rfl) ?_
  refine lv_iload_n hx hb dL_law_411 rfl (lv_at hl 3 rfl) ?_
  refine lv_iconst (v := 5) hx hb dL_law_412 (by decide) ?_
  refine lv_iadd hx hb dL_law_413 ?_
  refine va_sld hx hb hX hbl hbA hS hi5 dL_law_414 ?_
  obtain ⟨hPm, hDm⟩ := part_r (r := wR cy ad f i0 i1 ++ wX cy ad u1) hP hD
  refine callTI (r := wR cy ad f i0 i1 ++ wX cy ad u1) (w := wM cy bd mt) (rest := [.int r1]) SF (c_X11_ball l D cy tz bd mt (xs (x3 + 1).toNatClampNeg) (xs (x3 + 2).toNatClampNeg) (xs (x3 + 3).toNatClampNeg) (xs (x3 + 4).toNatClampNeg) (xs (x3 + 5).toNatClampNeg) _ h) (cw_RL_53 hts ⟨Nat.le_of_ble_eq_true rfl, Nat.le_of_ble_eq_true rfl⟩) rfl rfl (va_recv hK hPm (ci := 10) (q0 := 0) rfl rfl) hK hZ hA hP hD hS rfl hl.1 rfl (Nat.le_of_ble_eq_true rfl) dL_law_415 hcl0 (fun r2 u2 H locs h hP hD hS => ?_)
  refine lv_icmp_eq (tgt := 1069) hx hb dL_law_418 (by decide) (fun c1 => ?_) (fun c1 => ?_)
  · refine W.widen (k := cells + 10) (n := slots + 122) (by omega) (by omega) ?_
    exact next u1 u2 f i0 i1 H locs h.2 hf hP hD hS
  · exact absurd h.1 c1
set_option maxHeartbeats 4000000 in
set_option maxRecDepth 100000 in
theorem lo_caught {p : Program} {l : Launch} {e : Env} {s : State} {m : MethodId} {below : List Frame} {meth : Method} {c : Code} {D : va_G} {cy : Nat → ClassId} {tz : Nat → Nat} {b L : Nat} {xs : Nat → Int32} {LR : St → Option St → Option St → St → Prop} {ad bd : Nat → Nat} {st mt : St} {f : Nat → Option Nat} {i0 i1 : Im} {x3 : Int32} {j : Nat} {H : Heap} {locs : List Loc} {ls : Array Slot} {cells slots : Nat} {Q : State → Prop} (hL : L ≤ 3584) (hC : Lc p s m meth c D cy tz b L xs) (hop : ∀ (st mt : St) (j0 j1 : Option St) (a1 : Int32) (a2 : Int32) (a3 : Int32) (a4 : Int32), LR st j0 j1 mt → wp_X10_caught st a1 a2 a3 a4 (fun r st' => wp_X11_caught mt a1 a2 a3 a4 (fun r' mt' => r = r' ∧ LR st' j0 j1 mt'))) (hx3 : x3 = nI (7 * j)) (hj : 7 * j + 7 ≤ L) (hcl : cells + 10 ≤ 600000) (hsl : slots + 122 ≤ 7302250) (hLR : LR st (jm i0) (jm i1) mt) (hf : fOk f i0 i1) (hP : va_P D vwCl (wA cy ad bd st mt f i0 i1) H) (hD : va_D (lwA s) (wA cy ad bd st mt f i0 i1)) (hS : va_S (lwA s) s.heap H locs) (hl : lv_has ls 4 [(0, .ref b), (1, .ref (ad 0)), (2, .ref (bd 0)), (3, .int x3)]) (next : ∀ (st2 mt2 : St) (f2 : Nat → Option Nat) (k0 k1 : Im) (H : Heap) (locs : List Loc), LR st2 (jm k0) (jm k1) mt2 → fOk f2 k0 k1 → va_P D vwCl (wA cy ad bd st2 mt2 f2 k0 k1) H → va_D (lwA s) (wA cy ad bd st2 mt2 f2 k0 k1) → va_S (lwA s) s.heap H locs → W p l e room_1 s m #[Value.ref b] below meth c H locs (cells + 10) (slots + 122) Q (F0 m 1069 ls [])) : W p l e room_1 s m #[Value.ref b] below meth c H locs cells slots Q (F0 m 423 ls []) := by
  obtain ⟨hx, hb, hr, hml, hown, hts, hX, hbl, hlocks, hK, hZ, hXX⟩ := hC
  have hA : ∀ q : Nat, s.heap.size ≤ q → lwA s q := fun _ h => h
  have hbA : ¬ lwA s b := Nat.not_le.mpr hbl
  have SF : CallFix p m c code 4 s #[Value.ref b] wsL_law RL := ⟨hx, hb, hml, hown, hts⟩
  have hi1 : vp_in (x3 + 1) L := lw_in hL hx3 hj (k := 1) (by decide)
  have hi2 : vp_in (x3 + 2) L := lw_in hL hx3 hj (k := 2) (by decide)
  have hi3 : vp_in (x3 + 3) L := lw_in hL hx3 hj (k := 3) (by decide)
  have hi4 : vp_in (x3 + 4) L := lw_in hL hx3 hj (k := 4) (by decide)
  have hcl0 : cells ≤ room_1.cells ∧ slots ≤ room_1.slots := ⟨show cells ≤ 600000 by omega, show slots ≤ 7302250 by omega⟩
  refine lv_aload_n hx hb dL_law_423 rfl (lv_at hl 1 rfl) ?_
  refine lv_aload_n hx hb dL_law_424 rfl (lv_at hl 0 rfl) ?_
  refine lv_iload_n hx hb dL_law_425 rfl (lv_at hl 3 rfl) ?_
  refine lv_iconst (v := 1) hx hb dL_law_426 (by decide) ?_
  refine lv_iadd hx hb dL_law_427 ?_
  refine va_sld hx hb hX hbl hbA hS hi1 dL_law_428 ?_
  refine lv_aload_n hx hb dL_law_429 rfl (lv_at hl 0 rfl) ?_
  refine lv_iload_n hx hb dL_law_430 rfl (lv_at hl 3 rfl) ?_
  refine lv_iconst (v := 2) hx hb dL_law_431 (by decide) ?_
  refine lv_iadd hx hb dL_law_432 ?_
  refine va_sld hx hb hX hbl hbA hS hi2 dL_law_433 ?_
  refine lv_aload_n hx hb dL_law_434 rfl (lv_at hl 0 rfl) ?_
  refine lv_iload_n hx hb dL_law_435 rfl (lv_at hl 3 rfl) ?_
  refine lv_iconst (v := 3) hx hb dL_law_436 (by decide) ?_
  refine lv_iadd hx hb dL_law_437 ?_
  refine va_sld hx hb hX hbl hbA hS hi3 dL_law_438 ?_
  refine lv_aload_n hx hb dL_law_439 rfl (lv_at hl 0 rfl) ?_
  refine lv_iload_n hx hb dL_law_440 rfl (lv_at hl 3 rfl) ?_
  refine lv_iconst (v := 4) hx hb dL_law_441 (by decide) ?_
  refine lv_iadd hx hb dL_law_442 ?_
  refine va_sld hx hb hX hbl hbA hS hi4 dL_law_443 ?_
  have hP : va_P D vwCl (wB cy ad bd st mt f i0 i1) H := va_P.swap hP
  have hD : va_D (lwA s) (wB cy ad bd st mt f i0 i1) := va_D.swap hD
  obtain ⟨hPx, hDx⟩ := part_r (r := wR cy ad f i0 i1 ++ wM cy bd mt) hP hD
  refine callTI (r := wR cy ad f i0 i1 ++ wM cy bd mt) (w := wX cy ad st) (rest := []) SF (c_X10_caught l D cy tz ad st (xs (x3 + 1).toNatClampNeg) (xs (x3 + 2).toNatClampNeg) (xs (x3 + 3).toNatClampNeg) (xs (x3 + 4).toNatClampNeg) _ (hop st mt (jm i0) (jm i1) (xs (x3 + 1).toNatClampNeg) (xs (x3 + 2).toNatClampNeg) (xs (x3 + 3).toNatClampNeg) (xs (x3 + 4).toNatClampNeg) hLR)) (cw_RL_54 hts ⟨Nat.le_of_ble_eq_true rfl, Nat.le_of_ble_eq_true rfl⟩) rfl rfl (va_recv hK hPx (ci := 9) (q0 := 0) rfl rfl) hK hZ hA hP hD hS rfl hl.1 rfl (Nat.le_of_ble_eq_true rfl) dL_law_444 hcl0 (fun r1 u1 H locs h hP hD hS => ?_)
  have hP : va_P D vwCl (wA cy ad bd u1 mt f i0 i1) H := va_P.swap hP
  have hD : va_D (lwA s) (wA cy ad bd u1 mt f i0 i1) := va_D.swap hD
  refine lv_aload_n hx hb dL_law_447 rfl (lv_at hl 2 rfl) ?_
  refine lv_aload_n hx hb dL_law_448 rfl (lv_at hl 0 rfl) ?_
  refine lv_iload_n hx hb dL_law_449 rfl (lv_at hl 3 rfl) ?_
  refine lv_iconst (v := 1) hx hb dL_law_450 (by decide) ?_
  refine lv_iadd hx hb dL_law_451 ?_
  refine va_sld hx hb hX hbl hbA hS hi1 dL_law_452 ?_
  refine lv_aload_n hx hb dL_law_453 rfl (lv_at hl 0 rfl) ?_
  refine lv_iload_n hx hb dL_law_454 rfl (lv_at hl 3 rfl) ?_
  refine lv_iconst (v := 2) hx hb dL_law_455 (by decide) ?_
  refine lv_iadd hx hb dL_law_456 ?_
  refine va_sld hx hb hX hbl hbA hS hi2 dL_law_457 ?_
  refine lv_aload_n hx hb dL_law_458 rfl (lv_at hl 0 rfl) ?_
  refine lv_iload_n hx hb dL_law_459 rfl (lv_at hl 3 rfl) ?_
  refine lv_iconst (v := 3) hx hb dL_law_460 (by decide) ?_
  refine lv_iadd hx hb dL_law_461 ?_
  refine va_sld hx hb hX hbl hbA hS hi3 dL_law_462 ?_
  refine lv_aload_n hx hb dL_law_463 rfl (lv_at hl 0 rfl) ?_
  refine lv_iload_n hx hb dL_law_464 rfl (lv_at hl 3 rfl) ?_
  refine lv_iconst (v := 4) hx hb dL_law_465 (by decide) ?_
  refine lv_iadd hx hb dL_law_466 ?_
  refine va_sld hx hb hX hbl hbA hS hi4 dL_law_467 ?_
  obtain ⟨hPm, hDm⟩ := part_r (r := wR cy ad f i0 i1 ++ wX cy ad u1) hP hD
  refine callTI (r := wR cy ad f i0 i1 ++ wX cy ad u1) (w := wM cy bd mt) (rest := [.int r1]) SF (c_X11_caught l D cy tz bd mt (xs (x3 + 1).toNatClampNeg) (xs (x3 + 2).toNatClampNeg) (xs (x3 + 3).toNatClampNeg) (xs (x3 + 4).toNatClampNeg) _ h) (cw_RL_58 hts ⟨Nat.le_of_ble_eq_true rfl, Nat.le_of_ble_eq_true rfl⟩) rfl rfl (va_recv hK hPm (ci := 10) (q0 := 0) rfl rfl) hK hZ hA hP hD hS rfl hl.1 rfl (Nat.le_of_ble_eq_true rfl) dL_law_468 hcl0 (fun r2 u2 H locs h hP hD hS => ?_)
  refine lv_icmp_eq (tgt := 1069) hx hb dL_law_471 (by decide) (fun c1 => ?_) (fun c1 => ?_)
  · refine W.widen (k := cells + 10) (n := slots + 122) (by omega) (by omega) ?_
    exact next u1 u2 f i0 i1 H locs h.2 hf hP hD hS
  · exact absurd h.1 c1
set_option maxHeartbeats 4000000 in
set_option maxRecDepth 100000 in
theorem lo_all {p : Program} {l : Launch} {e : Env} {s : State} {m : MethodId} {below : List Frame} {meth : Method} {c : Code} {D : va_G} {cy : Nat → ClassId} {tz : Nat → Nat} {b L : Nat} {xs : Nat → Int32} {LR : St → Option St → Option St → St → Prop} {ad bd : Nat → Nat} {st mt : St} {f : Nat → Option Nat} {i0 i1 : Im} {x3 : Int32} {j : Nat} {H : Heap} {locs : List Loc} {ls : Array Slot} {cells slots : Nat} {Q : State → Prop} (hL : L ≤ 3584) (hC : Lc p s m meth c D cy tz b L xs) (hop : ∀ (st mt : St) (j0 j1 : Option St) (a1 : Int32) (a2 : Int32) (a3 : Int32), LR st j0 j1 mt → wp_X10_all st a1 a2 a3 (fun r st' => wp_X11_all mt a1 a2 a3 (fun r' mt' => r = r' ∧ LR st' j0 j1 mt'))) (hx3 : x3 = nI (7 * j)) (hj : 7 * j + 7 ≤ L) (hcl : cells + 10 ≤ 600000) (hsl : slots + 122 ≤ 7302250) (hLR : LR st (jm i0) (jm i1) mt) (hf : fOk f i0 i1) (hP : va_P D vwCl (wA cy ad bd st mt f i0 i1) H) (hD : va_D (lwA s) (wA cy ad bd st mt f i0 i1)) (hS : va_S (lwA s) s.heap H locs) (hl : lv_has ls 4 [(0, .ref b), (1, .ref (ad 0)), (2, .ref (bd 0)), (3, .int x3)]) (next : ∀ (st2 mt2 : St) (f2 : Nat → Option Nat) (k0 k1 : Im) (H : Heap) (locs : List Loc), LR st2 (jm k0) (jm k1) mt2 → fOk f2 k0 k1 → va_P D vwCl (wA cy ad bd st2 mt2 f2 k0 k1) H → va_D (lwA s) (wA cy ad bd st2 mt2 f2 k0 k1) → va_S (lwA s) s.heap H locs → W p l e room_1 s m #[Value.ref b] below meth c H locs (cells + 10) (slots + 122) Q (F0 m 1069 ls [])) : W p l e room_1 s m #[Value.ref b] below meth c H locs cells slots Q (F0 m 476 ls []) := by
  obtain ⟨hx, hb, hr, hml, hown, hts, hX, hbl, hlocks, hK, hZ, hXX⟩ := hC
  have hA : ∀ q : Nat, s.heap.size ≤ q → lwA s q := fun _ h => h
  have hbA : ¬ lwA s b := Nat.not_le.mpr hbl
  have SF : CallFix p m c code 4 s #[Value.ref b] wsL_law RL := ⟨hx, hb, hml, hown, hts⟩
  have hi1 : vp_in (x3 + 1) L := lw_in hL hx3 hj (k := 1) (by decide)
  have hi2 : vp_in (x3 + 2) L := lw_in hL hx3 hj (k := 2) (by decide)
  have hi3 : vp_in (x3 + 3) L := lw_in hL hx3 hj (k := 3) (by decide)
  have hcl0 : cells ≤ room_1.cells ∧ slots ≤ room_1.slots := ⟨show cells ≤ 600000 by omega, show slots ≤ 7302250 by omega⟩
  refine lv_aload_n hx hb dL_law_476 rfl (lv_at hl 1 rfl) ?_
  refine lv_aload_n hx hb dL_law_477 rfl (lv_at hl 0 rfl) ?_
  refine lv_iload_n hx hb dL_law_478 rfl (lv_at hl 3 rfl) ?_
  refine lv_iconst (v := 1) hx hb dL_law_479 (by decide) ?_
  refine lv_iadd hx hb dL_law_480 ?_
  refine va_sld hx hb hX hbl hbA hS hi1 dL_law_481 ?_
  refine lv_aload_n hx hb dL_law_482 rfl (lv_at hl 0 rfl) ?_
  refine lv_iload_n hx hb dL_law_483 rfl (lv_at hl 3 rfl) ?_
  refine lv_iconst (v := 2) hx hb dL_law_484 (by decide) ?_
  refine lv_iadd hx hb dL_law_485 ?_
  refine va_sld hx hb hX hbl hbA hS hi2 dL_law_486 ?_
  refine lv_aload_n hx hb dL_law_487 rfl (lv_at hl 0 rfl) ?_
  refine lv_iload_n hx hb dL_law_488 rfl (lv_at hl 3 rfl) ?_
  refine lv_iconst (v := 3) hx hb dL_law_489 (by decide) ?_
  refine lv_iadd hx hb dL_law_490 ?_
  refine va_sld hx hb hX hbl hbA hS hi3 dL_law_491 ?_
  have hP : va_P D vwCl (wB cy ad bd st mt f i0 i1) H := va_P.swap hP
  have hD : va_D (lwA s) (wB cy ad bd st mt f i0 i1) := va_D.swap hD
  obtain ⟨hPx, hDx⟩ := part_r (r := wR cy ad f i0 i1 ++ wM cy bd mt) hP hD
  refine callTI (r := wR cy ad f i0 i1 ++ wM cy bd mt) (w := wX cy ad st) (rest := []) SF (c_X10_all l D cy tz ad st (xs (x3 + 1).toNatClampNeg) (xs (x3 + 2).toNatClampNeg) (xs (x3 + 3).toNatClampNeg) _ (hop st mt (jm i0) (jm i1) (xs (x3 + 1).toNatClampNeg) (xs (x3 + 2).toNatClampNeg) (xs (x3 + 3).toNatClampNeg) hLR)) (cw_RL_59 hts ⟨Nat.le_of_ble_eq_true rfl, Nat.le_of_ble_eq_true rfl⟩) rfl rfl (va_recv hK hPx (ci := 9) (q0 := 0) rfl rfl) hK hZ hA hP hD hS rfl hl.1 rfl (Nat.le_of_ble_eq_true rfl) dL_law_492 hcl0 (fun r1 u1 H locs h hP hD hS => ?_)
  have hP : va_P D vwCl (wA cy ad bd u1 mt f i0 i1) H := va_P.swap hP
  have hD : va_D (lwA s) (wA cy ad bd u1 mt f i0 i1) := va_D.swap hD
  refine lv_aload_n hx hb dL_law_495 rfl (lv_at hl 2 rfl) ?_
  refine lv_aload_n hx hb dL_law_496 rfl (lv_at hl 0 rfl) ?_
  refine lv_iload_n hx hb dL_law_497 rfl (lv_at hl 3 rfl) ?_
  refine lv_iconst (v := 1) hx hb dL_law_498 (by decide) ?_
  refine lv_iadd hx hb dL_law_499 ?_
  refine va_sld hx hb hX hbl hbA hS hi1 dL_law_500 ?_
  refine lv_aload_n hx hb dL_law_501 rfl (lv_at hl 0 rfl) ?_
  refine lv_iload_n hx hb dL_law_502 rfl (lv_at hl 3 rfl) ?_
  refine lv_iconst (v := 2) hx hb dL_law_503 (by decide) ?_
  refine lv_iadd hx hb dL_law_504 ?_
  refine va_sld hx hb hX hbl hbA hS hi2 dL_law_505 ?_
  refine lv_aload_n hx hb dL_law_506 rfl (lv_at hl 0 rfl) ?_
  refine lv_iload_n hx hb dL_law_507 rfl (lv_at hl 3 rfl) ?_
  refine lv_iconst (v := 3) hx hb dL_law_508 (by decide) ?_
  refine lv_iadd hx hb dL_law_509 ?_
  refine va_sld hx hb hX hbl hbA hS hi3 dL_law_510 ?_
  obtain ⟨hPm, hDm⟩ := part_r (r := wR cy ad f i0 i1 ++ wX cy ad u1) hP hD
  refine callTI (r := wR cy ad f i0 i1 ++ wX cy ad u1) (w := wM cy bd mt) (rest := [.int r1]) SF (c_X11_all l D cy tz bd mt (xs (x3 + 1).toNatClampNeg) (xs (x3 + 2).toNatClampNeg) (xs (x3 + 3).toNatClampNeg) _ h) (cw_RL_62 hts ⟨Nat.le_of_ble_eq_true rfl, Nat.le_of_ble_eq_true rfl⟩) rfl rfl (va_recv hK hPm (ci := 10) (q0 := 0) rfl rfl) hK hZ hA hP hD hS rfl hl.1 rfl (Nat.le_of_ble_eq_true rfl) dL_law_511 hcl0 (fun r2 u2 H locs h hP hD hS => ?_)
  refine lv_icmp_eq (tgt := 1069) hx hb dL_law_514 (by decide) (fun c1 => ?_) (fun c1 => ?_)
  · refine W.widen (k := cells + 10) (n := slots + 122) (by omega) (by omega) ?_
    exact next u1 u2 f i0 i1 H locs h.2 hf hP hD hS
  · exact absurd h.1 c1
set_option maxHeartbeats 4000000 in
set_option maxRecDepth 100000 in
theorem lo_loops {p : Program} {l : Launch} {e : Env} {s : State} {m : MethodId} {below : List Frame} {meth : Method} {c : Code} {D : va_G} {cy : Nat → ClassId} {tz : Nat → Nat} {b L : Nat} {xs : Nat → Int32} {LR : St → Option St → Option St → St → Prop} {ad bd : Nat → Nat} {st mt : St} {f : Nat → Option Nat} {i0 i1 : Im} {x3 : Int32} {j : Nat} {H : Heap} {locs : List Loc} {ls : Array Slot} {cells slots : Nat} {Q : State → Prop} (hL : L ≤ 3584) (hC : Lc p s m meth c D cy tz b L xs) (hop : ∀ (st mt : St) (j0 j1 : Option St) (a1 : Int32) (a2 : Int32) (a3 : Int32), LR st j0 j1 mt → wp_X10_loops st a1 a2 a3 (fun r st' => wp_X11_loops mt a1 a2 a3 (fun r' mt' => r = r' ∧ LR st' j0 j1 mt'))) (hx3 : x3 = nI (7 * j)) (hj : 7 * j + 7 ≤ L) (hcl : cells + 10 ≤ 600000) (hsl : slots + 122 ≤ 7302250) (hLR : LR st (jm i0) (jm i1) mt) (hf : fOk f i0 i1) (hP : va_P D vwCl (wA cy ad bd st mt f i0 i1) H) (hD : va_D (lwA s) (wA cy ad bd st mt f i0 i1)) (hS : va_S (lwA s) s.heap H locs) (hl : lv_has ls 4 [(0, .ref b), (1, .ref (ad 0)), (2, .ref (bd 0)), (3, .int x3)]) (next : ∀ (st2 mt2 : St) (f2 : Nat → Option Nat) (k0 k1 : Im) (H : Heap) (locs : List Loc), LR st2 (jm k0) (jm k1) mt2 → fOk f2 k0 k1 → va_P D vwCl (wA cy ad bd st2 mt2 f2 k0 k1) H → va_D (lwA s) (wA cy ad bd st2 mt2 f2 k0 k1) → va_S (lwA s) s.heap H locs → W p l e room_1 s m #[Value.ref b] below meth c H locs (cells + 10) (slots + 122) Q (F0 m 1069 ls [])) : W p l e room_1 s m #[Value.ref b] below meth c H locs cells slots Q (F0 m 519 ls []) := by
  obtain ⟨hx, hb, hr, hml, hown, hts, hX, hbl, hlocks, hK, hZ, hXX⟩ := hC
  have hA : ∀ q : Nat, s.heap.size ≤ q → lwA s q := fun _ h => h
  have hbA : ¬ lwA s b := Nat.not_le.mpr hbl
  have SF : CallFix p m c code 4 s #[Value.ref b] wsL_law RL := ⟨hx, hb, hml, hown, hts⟩
  have hi1 : vp_in (x3 + 1) L := lw_in hL hx3 hj (k := 1) (by decide)
  have hi2 : vp_in (x3 + 2) L := lw_in hL hx3 hj (k := 2) (by decide)
  have hi3 : vp_in (x3 + 3) L := lw_in hL hx3 hj (k := 3) (by decide)
  have hcl0 : cells ≤ room_1.cells ∧ slots ≤ room_1.slots := ⟨show cells ≤ 600000 by omega, show slots ≤ 7302250 by omega⟩
  refine lv_aload_n hx hb dL_law_519 rfl (lv_at hl 1 rfl) ?_
  refine lv_aload_n hx hb dL_law_520 rfl (lv_at hl 0 rfl) ?_
  refine lv_iload_n hx hb dL_law_521 rfl (lv_at hl 3 rfl) ?_
  refine lv_iconst (v := 1) hx hb dL_law_522 (by decide) ?_
  refine lv_iadd hx hb dL_law_523 ?_
  refine va_sld hx hb hX hbl hbA hS hi1 dL_law_524 ?_
  refine lv_aload_n hx hb dL_law_525 rfl (lv_at hl 0 rfl) ?_
  refine lv_iload_n hx hb dL_law_526 rfl (lv_at hl 3 rfl) ?_
  refine lv_iconst (v := 2) hx hb dL_law_527 (by decide) ?_
  refine lv_iadd hx hb dL_law_528 ?_
  refine va_sld hx hb hX hbl hbA hS hi2 dL_law_529 ?_
  refine lv_aload_n hx hb dL_law_530 rfl (lv_at hl 0 rfl) ?_
  refine lv_iload_n hx hb dL_law_531 rfl (lv_at hl 3 rfl) ?_
  refine lv_iconst (v := 3) hx hb dL_law_532 (by decide) ?_
  refine lv_iadd hx hb dL_law_533 ?_
  refine va_sld hx hb hX hbl hbA hS hi3 dL_law_534 ?_
  have hP : va_P D vwCl (wB cy ad bd st mt f i0 i1) H := va_P.swap hP
  have hD : va_D (lwA s) (wB cy ad bd st mt f i0 i1) := va_D.swap hD
  obtain ⟨hPx, hDx⟩ := part_r (r := wR cy ad f i0 i1 ++ wM cy bd mt) hP hD
  refine callTI (r := wR cy ad f i0 i1 ++ wM cy bd mt) (w := wX cy ad st) (rest := []) SF (c_X10_loops l D cy tz ad st (xs (x3 + 1).toNatClampNeg) (xs (x3 + 2).toNatClampNeg) (xs (x3 + 3).toNatClampNeg) _ (hop st mt (jm i0) (jm i1) (xs (x3 + 1).toNatClampNeg) (xs (x3 + 2).toNatClampNeg) (xs (x3 + 3).toNatClampNeg) hLR)) (cw_RL_63 hts ⟨Nat.le_of_ble_eq_true rfl, Nat.le_of_ble_eq_true rfl⟩) rfl rfl (va_recv hK hPx (ci := 9) (q0 := 0) rfl rfl) hK hZ hA hP hD hS rfl hl.1 rfl (Nat.le_of_ble_eq_true rfl) dL_law_535 hcl0 (fun r1 u1 H locs h hP hD hS => ?_)
  have hP : va_P D vwCl (wA cy ad bd u1 mt f i0 i1) H := va_P.swap hP
  have hD : va_D (lwA s) (wA cy ad bd u1 mt f i0 i1) := va_D.swap hD
  refine lv_aload_n hx hb dL_law_538 rfl (lv_at hl 2 rfl) ?_
  refine lv_aload_n hx hb dL_law_539 rfl (lv_at hl 0 rfl) ?_
  refine lv_iload_n hx hb dL_law_540 rfl (lv_at hl 3 rfl) ?_
  refine lv_iconst (v := 1) hx hb dL_law_541 (by decide) ?_
  refine lv_iadd hx hb dL_law_542 ?_
  refine va_sld hx hb hX hbl hbA hS hi1 dL_law_543 ?_
  refine lv_aload_n hx hb dL_law_544 rfl (lv_at hl 0 rfl) ?_
  refine lv_iload_n hx hb dL_law_545 rfl (lv_at hl 3 rfl) ?_
  refine lv_iconst (v := 2) hx hb dL_law_546 (by decide) ?_
  refine lv_iadd hx hb dL_law_547 ?_
  refine va_sld hx hb hX hbl hbA hS hi2 dL_law_548 ?_
  refine lv_aload_n hx hb dL_law_549 rfl (lv_at hl 0 rfl) ?_
  refine lv_iload_n hx hb dL_law_550 rfl (lv_at hl 3 rfl) ?_
  refine lv_iconst (v := 3) hx hb dL_law_551 (by decide) ?_
  refine lv_iadd hx hb dL_law_552 ?_
  refine va_sld hx hb hX hbl hbA hS hi3 dL_law_553 ?_
  obtain ⟨hPm, hDm⟩ := part_r (r := wR cy ad f i0 i1 ++ wX cy ad u1) hP hD
  refine callTI (r := wR cy ad f i0 i1 ++ wX cy ad u1) (w := wM cy bd mt) (rest := [.int r1]) SF (c_X11_loops l D cy tz bd mt (xs (x3 + 1).toNatClampNeg) (xs (x3 + 2).toNatClampNeg) (xs (x3 + 3).toNatClampNeg) _ h) (cw_RL_66 hts ⟨Nat.le_of_ble_eq_true rfl, Nat.le_of_ble_eq_true rfl⟩) rfl rfl (va_recv hK hPm (ci := 10) (q0 := 0) rfl rfl) hK hZ hA hP hD hS rfl hl.1 rfl (Nat.le_of_ble_eq_true rfl) dL_law_554 hcl0 (fun r2 u2 H locs h hP hD hS => ?_)
  refine lv_icmp_eq (tgt := 1069) hx hb dL_law_557 (by decide) (fun c1 => ?_) (fun c1 => ?_)
  · refine W.widen (k := cells + 10) (n := slots + 122) (by omega) (by omega) ?_
    exact next u1 u2 f i0 i1 H locs h.2 hf hP hD hS
  · exact absurd h.1 c1
set_option maxHeartbeats 4000000 in
set_option maxRecDepth 100000 in
theorem lo_rolled {p : Program} {l : Launch} {e : Env} {s : State} {m : MethodId} {below : List Frame} {meth : Method} {c : Code} {D : va_G} {cy : Nat → ClassId} {tz : Nat → Nat} {b L : Nat} {xs : Nat → Int32} {LR : St → Option St → Option St → St → Prop} {ad bd : Nat → Nat} {st mt : St} {f : Nat → Option Nat} {i0 i1 : Im} {x3 : Int32} {j : Nat} {H : Heap} {locs : List Loc} {ls : Array Slot} {cells slots : Nat} {Q : State → Prop} (hL : L ≤ 3584) (hC : Lc p s m meth c D cy tz b L xs) (hop : ∀ (st mt : St) (j0 j1 : Option St) (a1 : Int32) (a2 : Int32) (a3 : Int32) (a4 : Int32) (a5 : Int32) (a6 : Int32), LR st j0 j1 mt → wp_X10_rolled st a1 a2 a3 a4 a5 a6 (fun r st' => wp_X11_rolled mt a1 a2 a3 a4 a5 a6 (fun r' mt' => r = r' ∧ LR st' j0 j1 mt'))) (hx3 : x3 = nI (7 * j)) (hj : 7 * j + 7 ≤ L) (hcl : cells + 10 ≤ 600000) (hsl : slots + 122 ≤ 7302250) (hLR : LR st (jm i0) (jm i1) mt) (hf : fOk f i0 i1) (hP : va_P D vwCl (wA cy ad bd st mt f i0 i1) H) (hD : va_D (lwA s) (wA cy ad bd st mt f i0 i1)) (hS : va_S (lwA s) s.heap H locs) (hl : lv_has ls 4 [(0, .ref b), (1, .ref (ad 0)), (2, .ref (bd 0)), (3, .int x3)]) (next : ∀ (st2 mt2 : St) (f2 : Nat → Option Nat) (k0 k1 : Im) (H : Heap) (locs : List Loc), LR st2 (jm k0) (jm k1) mt2 → fOk f2 k0 k1 → va_P D vwCl (wA cy ad bd st2 mt2 f2 k0 k1) H → va_D (lwA s) (wA cy ad bd st2 mt2 f2 k0 k1) → va_S (lwA s) s.heap H locs → W p l e room_1 s m #[Value.ref b] below meth c H locs (cells + 10) (slots + 122) Q (F0 m 1069 ls [])) : W p l e room_1 s m #[Value.ref b] below meth c H locs cells slots Q (F0 m 562 ls []) := by
  obtain ⟨hx, hb, hr, hml, hown, hts, hX, hbl, hlocks, hK, hZ, hXX⟩ := hC
  have hA : ∀ q : Nat, s.heap.size ≤ q → lwA s q := fun _ h => h
  have hbA : ¬ lwA s b := Nat.not_le.mpr hbl
  have SF : CallFix p m c code 4 s #[Value.ref b] wsL_law RL := ⟨hx, hb, hml, hown, hts⟩
  have hi1 : vp_in (x3 + 1) L := lw_in hL hx3 hj (k := 1) (by decide)
  have hi2 : vp_in (x3 + 2) L := lw_in hL hx3 hj (k := 2) (by decide)
  have hi3 : vp_in (x3 + 3) L := lw_in hL hx3 hj (k := 3) (by decide)
  have hi4 : vp_in (x3 + 4) L := lw_in hL hx3 hj (k := 4) (by decide)
  have hi5 : vp_in (x3 + 5) L := lw_in hL hx3 hj (k := 5) (by decide)
  have hi6 : vp_in (x3 + 6) L := lw_in hL hx3 hj (k := 6) (by decide)
  have hcl0 : cells ≤ room_1.cells ∧ slots ≤ room_1.slots := ⟨show cells ≤ 600000 by omega, show slots ≤ 7302250 by omega⟩
  refine lv_aload_n hx hb dL_law_562 rfl (lv_at hl 1 rfl) ?_
  refine lv_aload_n hx hb dL_law_563 rfl (lv_at hl 0 rfl) ?_
  refine lv_iload_n hx hb dL_law_564 rfl (lv_at hl 3 rfl) ?_
  refine lv_iconst (v := 1) hx hb dL_law_565 (by decide) ?_
  refine lv_iadd hx hb dL_law_566 ?_
  refine va_sld hx hb hX hbl hbA hS hi1 dL_law_567 ?_
  refine lv_aload_n hx hb dL_law_568 rfl (lv_at hl 0 rfl) ?_
  refine lv_iload_n hx hb dL_law_569 rfl (lv_at hl 3 rfl) ?_
  refine lv_iconst (v := 2) hx hb dL_law_570 (by decide) ?_
  refine lv_iadd hx hb dL_law_571 ?_
  refine va_sld hx hb hX hbl hbA hS hi2 dL_law_572 ?_
  refine lv_aload_n hx hb dL_law_573 rfl (lv_at hl 0 rfl) ?_
  refine lv_iload_n hx hb dL_law_574 rfl (lv_at hl 3 rfl) ?_
  refine lv_iconst (v := 3) hx hb dL_law_575 (by decide) ?_
  refine lv_iadd hx hb dL_law_576 ?_
  refine va_sld hx hb hX hbl hbA hS hi3 dL_law_577 ?_
  refine lv_aload_n hx hb dL_law_578 rfl (lv_at hl 0 rfl) ?_
  refine lv_iload_n hx hb dL_law_579 rfl (lv_at hl 3 rfl) ?_
  refine lv_iconst (v := 4) hx hb dL_law_580 (by decide) ?_
  refine lv_iadd hx hb dL_law_581 ?_
  refine va_sld hx hb hX hbl hbA hS hi4 dL_law_582 ?_
  refine lv_aload_n hx hb dL_law_583 rfl (lv_at hl 0 rfl) ?_
  refine lv_iload_n hx hb dL_law_584 rfl (lv_at hl 3 rfl) ?_
  refine lv_iconst (v := 5) hx hb dL_law_585 (by decide) ?_
  refine lv_iadd hx hb dL_law_586 ?_
  refine va_sld hx hb hX hbl hbA hS hi5 dL_law_587 ?_
  refine lv_aload_n hx hb dL_law_588 rfl (lv_at hl 0 rfl) ?_
  refine lv_iload_n hx hb dL_law_589 rfl (lv_at hl 3 rfl) ?_
  refine lv_bipush (v := 6) hx hb dL_law_590 (by decide) ?_
  refine lv_iadd hx hb dL_law_592 ?_
  refine va_sld hx hb hX hbl hbA hS hi6 dL_law_593 ?_
  have hP : va_P D vwCl (wB cy ad bd st mt f i0 i1) H := va_P.swap hP
  have hD : va_D (lwA s) (wB cy ad bd st mt f i0 i1) := va_D.swap hD
  obtain ⟨hPx, hDx⟩ := part_r (r := wR cy ad f i0 i1 ++ wM cy bd mt) hP hD
  refine callTI (r := wR cy ad f i0 i1 ++ wM cy bd mt) (w := wX cy ad st) (rest := []) SF (c_X10_rolled l D cy tz ad st (xs (x3 + 1).toNatClampNeg) (xs (x3 + 2).toNatClampNeg) (xs (x3 + 3).toNatClampNeg) (xs (x3 + 4).toNatClampNeg) (xs (x3 + 5).toNatClampNeg) (xs (x3 + 6).toNatClampNeg) _ (hop st mt (jm i0) (jm i1) (xs (x3 + 1).toNatClampNeg) (xs (x3 + 2).toNatClampNeg) (xs (x3 + 3).toNatClampNeg) (xs (x3 + 4).toNatClampNeg) (xs (x3 + 5).toNatClampNeg) (xs (x3 + 6).toNatClampNeg) hLR)) (cw_RL_67 hts ⟨Nat.le_of_ble_eq_true rfl, Nat.le_of_ble_eq_true rfl⟩) rfl rfl (va_recv hK hPx (ci := 9) (q0 := 0) rfl rfl) hK hZ hA hP hD hS rfl hl.1 rfl (Nat.le_of_ble_eq_true rfl) dL_law_594 hcl0 (fun r1 u1 H locs h hP hD hS => ?_)
  have hP : va_P D vwCl (wA cy ad bd u1 mt f i0 i1) H := va_P.swap hP
  have hD : va_D (lwA s) (wA cy ad bd u1 mt f i0 i1) := va_D.swap hD
  refine lv_aload_n hx hb dL_law_597 rfl (lv_at hl 2 rfl) ?_
  refine lv_aload_n hx hb dL_law_598 rfl (lv_at hl 0 rfl) ?_
  refine lv_iload_n hx hb dL_law_599 rfl (lv_at hl 3 rfl) ?_
  refine lv_iconst (v := 1) hx hb dL_law_600 (by decide) ?_
  refine lv_iadd hx hb dL_law_601 ?_
  refine va_sld hx hb hX hbl hbA hS hi1 dL_law_602 ?_
  refine lv_aload_n hx hb dL_law_603 rfl (lv_at hl 0 rfl) ?_
  refine lv_iload_n hx hb dL_law_604 rfl (lv_at hl 3 rfl) ?_
  refine lv_iconst (v := 2) hx hb dL_law_605 (by decide) ?_
  refine lv_iadd hx hb dL_law_606 ?_
  refine va_sld hx hb hX hbl hbA hS hi2 dL_law_607 ?_
  refine lv_aload_n hx hb dL_law_608 rfl (lv_at hl 0 rfl) ?_
  refine lv_iload_n hx hb dL_law_609 rfl (lv_at hl 3 rfl) ?_
  refine lv_iconst (v := 3) hx hb dL_law_610 (by decide) ?_
  refine lv_iadd hx hb dL_law_611 ?_
  refine va_sld hx hb hX hbl hbA hS hi3 dL_law_612 ?_
  refine lv_aload_n hx hb dL_law_613 rfl (lv_at hl 0 rfl) ?_
  refine lv_iload_n hx hb dL_law_614 rfl (lv_at hl 3 rfl) ?_
  refine lv_iconst (v := 4) hx hb dL_law_615 (by decide) ?_
  refine lv_iadd hx hb dL_law_616 ?_
  refine va_sld hx hb hX hbl hbA hS hi4 dL_law_617 ?_
  refine lv_aload_n hx hb dL_law_618 rfl (lv_at hl 0 rfl) ?_
  refine lv_iload_n hx hb dL_law_619 rfl (lv_at hl 3 rfl) ?_
  refine lv_iconst (v := 5) hx hb dL_law_620 (by decide) ?_
  refine lv_iadd hx hb dL_law_621 ?_
  refine va_sld hx hb hX hbl hbA hS hi5 dL_law_622 ?_
  refine lv_aload_n hx hb dL_law_623 rfl (lv_at hl 0 rfl) ?_
  refine lv_iload_n hx hb dL_law_624 rfl (lv_at hl 3 rfl) ?_
  refine lv_bipush (v := 6) hx hb dL_law_625 (by decide) ?_
  refine lv_iadd hx hb dL_law_627 ?_
  refine va_sld hx hb hX hbl hbA hS hi6 dL_law_628 ?_
  obtain ⟨hPm, hDm⟩ := part_r (r := wR cy ad f i0 i1 ++ wX cy ad u1) hP hD
  refine callTI (r := wR cy ad f i0 i1 ++ wX cy ad u1) (w := wM cy bd mt) (rest := [.int r1]) SF (c_X11_rolled l D cy tz bd mt (xs (x3 + 1).toNatClampNeg) (xs (x3 + 2).toNatClampNeg) (xs (x3 + 3).toNatClampNeg) (xs (x3 + 4).toNatClampNeg) (xs (x3 + 5).toNatClampNeg) (xs (x3 + 6).toNatClampNeg) _ h) (cw_RL_71 hts ⟨Nat.le_of_ble_eq_true rfl, Nat.le_of_ble_eq_true rfl⟩) rfl rfl (va_recv hK hPm (ci := 10) (q0 := 0) rfl rfl) hK hZ hA hP hD hS rfl hl.1 rfl (Nat.le_of_ble_eq_true rfl) dL_law_629 hcl0 (fun r2 u2 H locs h hP hD hS => ?_)
  refine lv_icmp_eq (tgt := 1069) hx hb dL_law_632 (by decide) (fun c1 => ?_) (fun c1 => ?_)
  · refine W.widen (k := cells + 10) (n := slots + 122) (by omega) (by omega) ?_
    exact next u1 u2 f i0 i1 H locs h.2 hf hP hD hS
  · exact absurd h.1 c1
set_option maxHeartbeats 4000000 in
set_option maxRecDepth 100000 in
theorem lo_off {p : Program} {l : Launch} {e : Env} {s : State} {m : MethodId} {below : List Frame} {meth : Method} {c : Code} {D : va_G} {cy : Nat → ClassId} {tz : Nat → Nat} {b L : Nat} {xs : Nat → Int32} {LR : St → Option St → Option St → St → Prop} {ad bd : Nat → Nat} {st mt : St} {f : Nat → Option Nat} {i0 i1 : Im} {x3 : Int32} {j : Nat} {H : Heap} {locs : List Loc} {ls : Array Slot} {cells slots : Nat} {Q : State → Prop} (hL : L ≤ 3584) (hC : Lc p s m meth c D cy tz b L xs) (hop : ∀ (st mt : St) (j0 j1 : Option St) (a1 : Int32) (a2 : Int32) (a3 : Int32) (a4 : Int32), LR st j0 j1 mt → wp_X10_off st a1 a2 a3 a4 (fun r st' => wp_X11_off mt a1 a2 a3 a4 (fun r' mt' => r = r' ∧ LR st' j0 j1 mt'))) (hx3 : x3 = nI (7 * j)) (hj : 7 * j + 7 ≤ L) (hcl : cells + 10 ≤ 600000) (hsl : slots + 122 ≤ 7302250) (hLR : LR st (jm i0) (jm i1) mt) (hf : fOk f i0 i1) (hP : va_P D vwCl (wA cy ad bd st mt f i0 i1) H) (hD : va_D (lwA s) (wA cy ad bd st mt f i0 i1)) (hS : va_S (lwA s) s.heap H locs) (hl : lv_has ls 4 [(0, .ref b), (1, .ref (ad 0)), (2, .ref (bd 0)), (3, .int x3)]) (next : ∀ (st2 mt2 : St) (f2 : Nat → Option Nat) (k0 k1 : Im) (H : Heap) (locs : List Loc), LR st2 (jm k0) (jm k1) mt2 → fOk f2 k0 k1 → va_P D vwCl (wA cy ad bd st2 mt2 f2 k0 k1) H → va_D (lwA s) (wA cy ad bd st2 mt2 f2 k0 k1) → va_S (lwA s) s.heap H locs → W p l e room_1 s m #[Value.ref b] below meth c H locs (cells + 10) (slots + 122) Q (F0 m 1069 ls [])) : W p l e room_1 s m #[Value.ref b] below meth c H locs cells slots Q (F0 m 637 ls []) := by
  obtain ⟨hx, hb, hr, hml, hown, hts, hX, hbl, hlocks, hK, hZ, hXX⟩ := hC
  have hA : ∀ q : Nat, s.heap.size ≤ q → lwA s q := fun _ h => h
  have hbA : ¬ lwA s b := Nat.not_le.mpr hbl
  have SF : CallFix p m c code 4 s #[Value.ref b] wsL_law RL := ⟨hx, hb, hml, hown, hts⟩
  have hi1 : vp_in (x3 + 1) L := lw_in hL hx3 hj (k := 1) (by decide)
  have hi2 : vp_in (x3 + 2) L := lw_in hL hx3 hj (k := 2) (by decide)
  have hi3 : vp_in (x3 + 3) L := lw_in hL hx3 hj (k := 3) (by decide)
  have hi4 : vp_in (x3 + 4) L := lw_in hL hx3 hj (k := 4) (by decide)
  have hcl0 : cells ≤ room_1.cells ∧ slots ≤ room_1.slots := ⟨show cells ≤ 600000 by omega, show slots ≤ 7302250 by omega⟩
  refine lv_aload_n hx hb dL_law_637 rfl (lv_at hl 1 rfl) ?_
  refine lv_aload_n hx hb dL_law_638 rfl (lv_at hl 0 rfl) ?_
  refine lv_iload_n hx hb dL_law_639 rfl (lv_at hl 3 rfl) ?_
  refine lv_iconst (v := 1) hx hb dL_law_640 (by decide) ?_
  refine lv_iadd hx hb dL_law_641 ?_
  refine va_sld hx hb hX hbl hbA hS hi1 dL_law_642 ?_
  refine lv_aload_n hx hb dL_law_643 rfl (lv_at hl 0 rfl) ?_
  refine lv_iload_n hx hb dL_law_644 rfl (lv_at hl 3 rfl) ?_
  refine lv_iconst (v := 2) hx hb dL_law_645 (by decide) ?_
  refine lv_iadd hx hb dL_law_646 ?_
  refine va_sld hx hb hX hbl hbA hS hi2 dL_law_647 ?_
  refine lv_aload_n hx hb dL_law_648 rfl (lv_at hl 0 rfl) ?_
  refine lv_iload_n hx hb dL_law_649 rfl (lv_at hl 3 rfl) ?_
  refine lv_iconst (v := 3) hx hb dL_law_650 (by decide) ?_
  refine lv_iadd hx hb dL_law_651 ?_
  refine va_sld hx hb hX hbl hbA hS hi3 dL_law_652 ?_
  refine lv_aload_n hx hb dL_law_653 rfl (lv_at hl 0 rfl) ?_
  refine lv_iload_n hx hb dL_law_654 rfl (lv_at hl 3 rfl) ?_
  refine lv_iconst (v := 4) hx hb dL_law_655 (by decide) ?_
  refine lv_iadd hx hb dL_law_656 ?_
  refine va_sld hx hb hX hbl hbA hS hi4 dL_law_657 ?_
  have hP : va_P D vwCl (wB cy ad bd st mt f i0 i1) H := va_P.swap hP
  have hD : va_D (lwA s) (wB cy ad bd st mt f i0 i1) := va_D.swap hD
  obtain ⟨hPx, hDx⟩ := part_r (r := wR cy ad f i0 i1 ++ wM cy bd mt) hP hD
  refine callTI (r := wR cy ad f i0 i1 ++ wM cy bd mt) (w := wX cy ad st) (rest := []) SF (c_X10_off l D cy tz ad st (xs (x3 + 1).toNatClampNeg) (xs (x3 + 2).toNatClampNeg) (xs (x3 + 3).toNatClampNeg) (xs (x3 + 4).toNatClampNeg) _ (hop st mt (jm i0) (jm i1) (xs (x3 + 1).toNatClampNeg) (xs (x3 + 2).toNatClampNeg) (xs (x3 + 3).toNatClampNeg) (xs (x3 + 4).toNatClampNeg) hLR)) (cw_RL_72 hts ⟨Nat.le_of_ble_eq_true rfl, Nat.le_of_ble_eq_true rfl⟩) rfl rfl (va_recv hK hPx (ci := 9) (q0 := 0) rfl rfl) hK hZ hA hP hD hS rfl hl.1 rfl (Nat.le_of_ble_eq_true rfl) dL_law_658 hcl0 (fun r1 u1 H locs h hP hD hS => ?_)
  have hP : va_P D vwCl (wA cy ad bd u1 mt f i0 i1) H := va_P.swap hP
  have hD : va_D (lwA s) (wA cy ad bd u1 mt f i0 i1) := va_D.swap hD
  refine lv_aload_n hx hb dL_law_661 rfl (lv_at hl 2 rfl) ?_
  refine lv_aload_n hx hb dL_law_662 rfl (lv_at hl 0 rfl) ?_
  refine lv_iload_n hx hb dL_law_663 rfl (lv_at hl 3 rfl) ?_
  refine lv_iconst (v := 1) hx hb dL_law_664 (by decide) ?_
  refine lv_iadd hx hb dL_law_665 ?_
  refine va_sld hx hb hX hbl hbA hS hi1 dL_law_666 ?_
  refine lv_aload_n hx hb dL_law_667 rfl (lv_at hl 0 rfl) ?_
  refine lv_iload_n hx hb dL_law_668 rfl (lv_at hl 3 rfl) ?_
  refine lv_iconst (v := 2) hx hb dL_law_669 (by decide) ?_
  refine lv_iadd hx hb dL_law_670 ?_
  refine va_sld hx hb hX hbl hbA hS hi2 dL_law_671 ?_
  refine lv_aload_n hx hb dL_law_672 rfl (lv_at hl 0 rfl) ?_
  refine lv_iload_n hx hb dL_law_673 rfl (lv_at hl 3 rfl) ?_
  refine lv_iconst (v := 3) hx hb dL_law_674 (by decide) ?_
  refine lv_iadd hx hb dL_law_675 ?_
  refine va_sld hx hb hX hbl hbA hS hi3 dL_law_676 ?_
  refine lv_aload_n hx hb dL_law_677 rfl (lv_at hl 0 rfl) ?_
  refine lv_iload_n hx hb dL_law_678 rfl (lv_at hl 3 rfl) ?_
  refine lv_iconst (v := 4) hx hb dL_law_679 (by decide) ?_
  refine lv_iadd hx hb dL_law_680 ?_
  refine va_sld hx hb hX hbl hbA hS hi4 dL_law_681 ?_
  obtain ⟨hPm, hDm⟩ := part_r (r := wR cy ad f i0 i1 ++ wX cy ad u1) hP hD
  refine callTI (r := wR cy ad f i0 i1 ++ wX cy ad u1) (w := wM cy bd mt) (rest := [.int r1]) SF (c_X11_off l D cy tz bd mt (xs (x3 + 1).toNatClampNeg) (xs (x3 + 2).toNatClampNeg) (xs (x3 + 3).toNatClampNeg) (xs (x3 + 4).toNatClampNeg) _ h) (cw_RL_75 hts ⟨Nat.le_of_ble_eq_true rfl, Nat.le_of_ble_eq_true rfl⟩) rfl rfl (va_recv hK hPm (ci := 10) (q0 := 0) rfl rfl) hK hZ hA hP hD hS rfl hl.1 rfl (Nat.le_of_ble_eq_true rfl) dL_law_682 hcl0 (fun r2 u2 H locs h hP hD hS => ?_)
  refine lv_icmp_eq (tgt := 1069) hx hb dL_law_685 (by decide) (fun c1 => ?_) (fun c1 => ?_)
  · refine W.widen (k := cells + 10) (n := slots + 122) (by omega) (by omega) ?_
    exact next u1 u2 f i0 i1 H locs h.2 hf hP hD hS
  · exact absurd h.1 c1
set_option maxHeartbeats 4000000 in
set_option maxRecDepth 100000 in
theorem lo_leans {p : Program} {l : Launch} {e : Env} {s : State} {m : MethodId} {below : List Frame} {meth : Method} {c : Code} {D : va_G} {cy : Nat → ClassId} {tz : Nat → Nat} {b L : Nat} {xs : Nat → Int32} {LR : St → Option St → Option St → St → Prop} {ad bd : Nat → Nat} {st mt : St} {f : Nat → Option Nat} {i0 i1 : Im} {x3 : Int32} {j : Nat} {H : Heap} {locs : List Loc} {ls : Array Slot} {cells slots : Nat} {Q : State → Prop} (hL : L ≤ 3584) (hC : Lc p s m meth c D cy tz b L xs) (hop : ∀ (st mt : St) (j0 j1 : Option St) (a1 : Int32), LR st j0 j1 mt → wp_X10_leans st a1 (fun r => wp_X11_leans mt a1 (fun r' => r = r' ∧ LR st j0 j1 mt))) (hx3 : x3 = nI (7 * j)) (hj : 7 * j + 7 ≤ L) (hcl : cells + 10 ≤ 600000) (hsl : slots + 122 ≤ 7302250) (hLR : LR st (jm i0) (jm i1) mt) (hf : fOk f i0 i1) (hP : va_P D vwCl (wA cy ad bd st mt f i0 i1) H) (hD : va_D (lwA s) (wA cy ad bd st mt f i0 i1)) (hS : va_S (lwA s) s.heap H locs) (hl : lv_has ls 4 [(0, .ref b), (1, .ref (ad 0)), (2, .ref (bd 0)), (3, .int x3)]) (next : ∀ (st2 mt2 : St) (f2 : Nat → Option Nat) (k0 k1 : Im) (H : Heap) (locs : List Loc), LR st2 (jm k0) (jm k1) mt2 → fOk f2 k0 k1 → va_P D vwCl (wA cy ad bd st2 mt2 f2 k0 k1) H → va_D (lwA s) (wA cy ad bd st2 mt2 f2 k0 k1) → va_S (lwA s) s.heap H locs → W p l e room_1 s m #[Value.ref b] below meth c H locs (cells + 10) (slots + 122) Q (F0 m 1069 ls [])) : W p l e room_1 s m #[Value.ref b] below meth c H locs cells slots Q (F0 m 690 ls []) := by
  obtain ⟨hx, hb, hr, hml, hown, hts, hX, hbl, hlocks, hK, hZ, hXX⟩ := hC
  have hA : ∀ q : Nat, s.heap.size ≤ q → lwA s q := fun _ h => h
  have hbA : ¬ lwA s b := Nat.not_le.mpr hbl
  have SF : CallFix p m c code 4 s #[Value.ref b] wsL_law RL := ⟨hx, hb, hml, hown, hts⟩
  have hi1 : vp_in (x3 + 1) L := lw_in hL hx3 hj (k := 1) (by decide)
  have hcl0 : cells ≤ room_1.cells ∧ slots ≤ room_1.slots := ⟨show cells ≤ 600000 by omega, show slots ≤ 7302250 by omega⟩
  refine lv_aload_n hx hb dL_law_690 rfl (lv_at hl 1 rfl) ?_
  refine lv_aload_n hx hb dL_law_691 rfl (lv_at hl 0 rfl) ?_
  refine lv_iload_n hx hb dL_law_692 rfl (lv_at hl 3 rfl) ?_
  refine lv_iconst (v := 1) hx hb dL_law_693 (by decide) ?_
  refine lv_iadd hx hb dL_law_694 ?_
  refine va_sld hx hb hX hbl hbA hS hi1 dL_law_695 ?_
  have hP : va_P D vwCl (wB cy ad bd st mt f i0 i1) H := va_P.swap hP
  have hD : va_D (lwA s) (wB cy ad bd st mt f i0 i1) := va_D.swap hD
  obtain ⟨hPx, hDx⟩ := part_r (r := wR cy ad f i0 i1 ++ wM cy bd mt) hP hD
  refine callTI (r := wR cy ad f i0 i1 ++ wM cy bd mt) (w := wX cy ad st) (rest := []) SF (c_X10_leans l D cy tz ad st (xs (x3 + 1).toNatClampNeg) _ (hop st mt (jm i0) (jm i1) (xs (x3 + 1).toNatClampNeg) hLR)) (cw_RL_76 hts ⟨Nat.le_of_ble_eq_true rfl, Nat.le_of_ble_eq_true rfl⟩) rfl rfl (va_recv hK hPx (ci := 9) (q0 := 0) rfl rfl) hK hZ hA hP hD hS rfl hl.1 rfl (Nat.le_of_ble_eq_true rfl) dL_law_696 hcl0 (fun r1 u1 H locs h hP hD hS => ?_)
  have hP : va_P D vwCl (wA cy ad bd st mt f i0 i1) H := va_P.swap hP
  have hD : va_D (lwA s) (wA cy ad bd st mt f i0 i1) := va_D.swap hD
  refine lv_aload_n hx hb dL_law_699 rfl (lv_at hl 2 rfl) ?_
  refine lv_aload_n hx hb dL_law_700 rfl (lv_at hl 0 rfl) ?_
  refine lv_iload_n hx hb dL_law_701 rfl (lv_at hl 3 rfl) ?_
  refine lv_iconst (v := 1) hx hb dL_law_702 (by decide) ?_
  refine lv_iadd hx hb dL_law_703 ?_
  refine va_sld hx hb hX hbl hbA hS hi1 dL_law_704 ?_
  obtain ⟨hPm, hDm⟩ := part_r (r := wR cy ad f i0 i1 ++ wX cy ad st) hP hD
  refine callTI (r := wR cy ad f i0 i1 ++ wX cy ad st) (w := wM cy bd mt) (rest := [.int r1]) SF (c_X11_leans l D cy tz bd mt (xs (x3 + 1).toNatClampNeg) _ h) (cw_RL_79 hts ⟨Nat.le_of_ble_eq_true rfl, Nat.le_of_ble_eq_true rfl⟩) rfl rfl (va_recv hK hPm (ci := 10) (q0 := 0) rfl rfl) hK hZ hA hP hD hS rfl hl.1 rfl (Nat.le_of_ble_eq_true rfl) dL_law_705 hcl0 (fun r2 u2 H locs h hP hD hS => ?_)
  refine lv_icmp_eq (tgt := 1069) hx hb dL_law_708 (by decide) (fun c1 => ?_) (fun c1 => ?_)
  · refine W.widen (k := cells + 10) (n := slots + 122) (by omega) (by omega) ?_
    exact next st mt f i0 i1 H locs h.2 hf hP hD hS
  · exact absurd h.1 c1
set_option maxHeartbeats 4000000 in
set_option maxRecDepth 100000 in
theorem lo_stays {p : Program} {l : Launch} {e : Env} {s : State} {m : MethodId} {below : List Frame} {meth : Method} {c : Code} {D : va_G} {cy : Nat → ClassId} {tz : Nat → Nat} {b L : Nat} {xs : Nat → Int32} {LR : St → Option St → Option St → St → Prop} {ad bd : Nat → Nat} {st mt : St} {f : Nat → Option Nat} {i0 i1 : Im} {x3 : Int32} {j : Nat} {H : Heap} {locs : List Loc} {ls : Array Slot} {cells slots : Nat} {Q : State → Prop} (hL : L ≤ 3584) (hC : Lc p s m meth c D cy tz b L xs) (hop : ∀ (st mt : St) (j0 j1 : Option St) (a1 : Int32), LR st j0 j1 mt → wp_X10_stays st a1 (fun r => wp_X11_stays mt a1 (fun r' => r = r' ∧ LR st j0 j1 mt))) (hx3 : x3 = nI (7 * j)) (hj : 7 * j + 7 ≤ L) (hcl : cells + 10 ≤ 600000) (hsl : slots + 122 ≤ 7302250) (hLR : LR st (jm i0) (jm i1) mt) (hf : fOk f i0 i1) (hP : va_P D vwCl (wA cy ad bd st mt f i0 i1) H) (hD : va_D (lwA s) (wA cy ad bd st mt f i0 i1)) (hS : va_S (lwA s) s.heap H locs) (hl : lv_has ls 4 [(0, .ref b), (1, .ref (ad 0)), (2, .ref (bd 0)), (3, .int x3)]) (next : ∀ (st2 mt2 : St) (f2 : Nat → Option Nat) (k0 k1 : Im) (H : Heap) (locs : List Loc), LR st2 (jm k0) (jm k1) mt2 → fOk f2 k0 k1 → va_P D vwCl (wA cy ad bd st2 mt2 f2 k0 k1) H → va_D (lwA s) (wA cy ad bd st2 mt2 f2 k0 k1) → va_S (lwA s) s.heap H locs → W p l e room_1 s m #[Value.ref b] below meth c H locs (cells + 10) (slots + 122) Q (F0 m 1069 ls [])) : W p l e room_1 s m #[Value.ref b] below meth c H locs cells slots Q (F0 m 713 ls []) := by
  obtain ⟨hx, hb, hr, hml, hown, hts, hX, hbl, hlocks, hK, hZ, hXX⟩ := hC
  have hA : ∀ q : Nat, s.heap.size ≤ q → lwA s q := fun _ h => h
  have hbA : ¬ lwA s b := Nat.not_le.mpr hbl
  have SF : CallFix p m c code 4 s #[Value.ref b] wsL_law RL := ⟨hx, hb, hml, hown, hts⟩
  have hi1 : vp_in (x3 + 1) L := lw_in hL hx3 hj (k := 1) (by decide)
  have hcl0 : cells ≤ room_1.cells ∧ slots ≤ room_1.slots := ⟨show cells ≤ 600000 by omega, show slots ≤ 7302250 by omega⟩
  refine lv_aload_n hx hb dL_law_713 rfl (lv_at hl 1 rfl) ?_
  refine lv_aload_n hx hb dL_law_714 rfl (lv_at hl 0 rfl) ?_
  refine lv_iload_n hx hb dL_law_715 rfl (lv_at hl 3 rfl) ?_
  refine lv_iconst (v := 1) hx hb dL_law_716 (by decide) ?_
  refine lv_iadd hx hb dL_law_717 ?_
  refine va_sld hx hb hX hbl hbA hS hi1 dL_law_718 ?_
  have hP : va_P D vwCl (wB cy ad bd st mt f i0 i1) H := va_P.swap hP
  have hD : va_D (lwA s) (wB cy ad bd st mt f i0 i1) := va_D.swap hD
  obtain ⟨hPx, hDx⟩ := part_r (r := wR cy ad f i0 i1 ++ wM cy bd mt) hP hD
  refine callTI (r := wR cy ad f i0 i1 ++ wM cy bd mt) (w := wX cy ad st) (rest := []) SF (c_X10_stays l D cy tz ad st (xs (x3 + 1).toNatClampNeg) _ (hop st mt (jm i0) (jm i1) (xs (x3 + 1).toNatClampNeg) hLR)) (cw_RL_80 hts ⟨Nat.le_of_ble_eq_true rfl, Nat.le_of_ble_eq_true rfl⟩) rfl rfl (va_recv hK hPx (ci := 9) (q0 := 0) rfl rfl) hK hZ hA hP hD hS rfl hl.1 rfl (Nat.le_of_ble_eq_true rfl) dL_law_719 hcl0 (fun r1 u1 H locs h hP hD hS => ?_)
  have hP : va_P D vwCl (wA cy ad bd st mt f i0 i1) H := va_P.swap hP
  have hD : va_D (lwA s) (wA cy ad bd st mt f i0 i1) := va_D.swap hD
  refine lv_aload_n hx hb dL_law_722 rfl (lv_at hl 2 rfl) ?_
  refine lv_aload_n hx hb dL_law_723 rfl (lv_at hl 0 rfl) ?_
  refine lv_iload_n hx hb dL_law_724 rfl (lv_at hl 3 rfl) ?_
  refine lv_iconst (v := 1) hx hb dL_law_725 (by decide) ?_
  refine lv_iadd hx hb dL_law_726 ?_
  refine va_sld hx hb hX hbl hbA hS hi1 dL_law_727 ?_
  obtain ⟨hPm, hDm⟩ := part_r (r := wR cy ad f i0 i1 ++ wX cy ad st) hP hD
  refine callTI (r := wR cy ad f i0 i1 ++ wX cy ad st) (w := wM cy bd mt) (rest := [.int r1]) SF (c_X11_stays l D cy tz bd mt (xs (x3 + 1).toNatClampNeg) _ h) (cw_RL_83 hts ⟨Nat.le_of_ble_eq_true rfl, Nat.le_of_ble_eq_true rfl⟩) rfl rfl (va_recv hK hPm (ci := 10) (q0 := 0) rfl rfl) hK hZ hA hP hD hS rfl hl.1 rfl (Nat.le_of_ble_eq_true rfl) dL_law_728 hcl0 (fun r2 u2 H locs h hP hD hS => ?_)
  refine lv_icmp_eq (tgt := 1069) hx hb dL_law_731 (by decide) (fun c1 => ?_) (fun c1 => ?_)
  · refine W.widen (k := cells + 10) (n := slots + 122) (by omega) (by omega) ?_
    exact next st mt f i0 i1 H locs h.2 hf hP hD hS
  · exact absurd h.1 c1
set_option maxHeartbeats 4000000 in
set_option maxRecDepth 100000 in
theorem lo_hut {p : Program} {l : Launch} {e : Env} {s : State} {m : MethodId} {below : List Frame} {meth : Method} {c : Code} {D : va_G} {cy : Nat → ClassId} {tz : Nat → Nat} {b L : Nat} {xs : Nat → Int32} {LR : St → Option St → Option St → St → Prop} {ad bd : Nat → Nat} {st mt : St} {f : Nat → Option Nat} {i0 i1 : Im} {x3 : Int32} {j : Nat} {H : Heap} {locs : List Loc} {ls : Array Slot} {cells slots : Nat} {Q : State → Prop} (hL : L ≤ 3584) (hC : Lc p s m meth c D cy tz b L xs) (hop : ∀ (st mt : St) (j0 j1 : Option St) (a1 : Int32) (a2 : Int32) (a3 : Int32), LR st j0 j1 mt → wp_X10_hut st a1 a2 a3 (fun r => wp_X11_hut mt a1 a2 a3 (fun r' => r = r' ∧ LR st j0 j1 mt))) (hx3 : x3 = nI (7 * j)) (hj : 7 * j + 7 ≤ L) (hcl : cells + 10 ≤ 600000) (hsl : slots + 122 ≤ 7302250) (hLR : LR st (jm i0) (jm i1) mt) (hf : fOk f i0 i1) (hP : va_P D vwCl (wA cy ad bd st mt f i0 i1) H) (hD : va_D (lwA s) (wA cy ad bd st mt f i0 i1)) (hS : va_S (lwA s) s.heap H locs) (hl : lv_has ls 4 [(0, .ref b), (1, .ref (ad 0)), (2, .ref (bd 0)), (3, .int x3)]) (next : ∀ (st2 mt2 : St) (f2 : Nat → Option Nat) (k0 k1 : Im) (H : Heap) (locs : List Loc), LR st2 (jm k0) (jm k1) mt2 → fOk f2 k0 k1 → va_P D vwCl (wA cy ad bd st2 mt2 f2 k0 k1) H → va_D (lwA s) (wA cy ad bd st2 mt2 f2 k0 k1) → va_S (lwA s) s.heap H locs → W p l e room_1 s m #[Value.ref b] below meth c H locs (cells + 10) (slots + 122) Q (F0 m 1069 ls [])) : W p l e room_1 s m #[Value.ref b] below meth c H locs cells slots Q (F0 m 736 ls []) := by
  obtain ⟨hx, hb, hr, hml, hown, hts, hX, hbl, hlocks, hK, hZ, hXX⟩ := hC
  have hA : ∀ q : Nat, s.heap.size ≤ q → lwA s q := fun _ h => h
  have hbA : ¬ lwA s b := Nat.not_le.mpr hbl
  have SF : CallFix p m c code 4 s #[Value.ref b] wsL_law RL := ⟨hx, hb, hml, hown, hts⟩
  have hi1 : vp_in (x3 + 1) L := lw_in hL hx3 hj (k := 1) (by decide)
  have hi2 : vp_in (x3 + 2) L := lw_in hL hx3 hj (k := 2) (by decide)
  have hi3 : vp_in (x3 + 3) L := lw_in hL hx3 hj (k := 3) (by decide)
  have hcl0 : cells ≤ room_1.cells ∧ slots ≤ room_1.slots := ⟨show cells ≤ 600000 by omega, show slots ≤ 7302250 by omega⟩
  refine lv_aload_n hx hb dL_law_736 rfl (lv_at hl 1 rfl) ?_
  refine lv_aload_n hx hb dL_law_737 rfl (lv_at hl 0 rfl) ?_
  refine lv_iload_n hx hb dL_law_738 rfl (lv_at hl 3 rfl) ?_
  refine lv_iconst (v := 1) hx hb dL_law_739 (by decide) ?_
  refine lv_iadd hx hb dL_law_740 ?_
  refine va_sld hx hb hX hbl hbA hS hi1 dL_law_741 ?_
  refine lv_aload_n hx hb dL_law_742 rfl (lv_at hl 0 rfl) ?_
  refine lv_iload_n hx hb dL_law_743 rfl (lv_at hl 3 rfl) ?_
  refine lv_iconst (v := 2) hx hb dL_law_744 (by decide) ?_
  refine lv_iadd hx hb dL_law_745 ?_
  refine va_sld hx hb hX hbl hbA hS hi2 dL_law_746 ?_
  refine lv_aload_n hx hb dL_law_747 rfl (lv_at hl 0 rfl) ?_
  refine lv_iload_n hx hb dL_law_748 rfl (lv_at hl 3 rfl) ?_
  refine lv_iconst (v := 3) hx hb dL_law_749 (by decide) ?_
  refine lv_iadd hx hb dL_law_750 ?_
  refine va_sld hx hb hX hbl hbA hS hi3 dL_law_751 ?_
  have hP : va_P D vwCl (wB cy ad bd st mt f i0 i1) H := va_P.swap hP
  have hD : va_D (lwA s) (wB cy ad bd st mt f i0 i1) := va_D.swap hD
  obtain ⟨hPx, hDx⟩ := part_r (r := wR cy ad f i0 i1 ++ wM cy bd mt) hP hD
  refine callTI (r := wR cy ad f i0 i1 ++ wM cy bd mt) (w := wX cy ad st) (rest := []) SF (c_X10_hut l D cy tz ad st (xs (x3 + 1).toNatClampNeg) (xs (x3 + 2).toNatClampNeg) (xs (x3 + 3).toNatClampNeg) _ (hop st mt (jm i0) (jm i1) (xs (x3 + 1).toNatClampNeg) (xs (x3 + 2).toNatClampNeg) (xs (x3 + 3).toNatClampNeg) hLR)) (cw_RL_84 hts ⟨Nat.le_of_ble_eq_true rfl, Nat.le_of_ble_eq_true rfl⟩) rfl rfl (va_recv hK hPx (ci := 9) (q0 := 0) rfl rfl) hK hZ hA hP hD hS rfl hl.1 rfl (Nat.le_of_ble_eq_true rfl) dL_law_752 hcl0 (fun r1 u1 H locs h hP hD hS => ?_)
  have hP : va_P D vwCl (wA cy ad bd st mt f i0 i1) H := va_P.swap hP
  have hD : va_D (lwA s) (wA cy ad bd st mt f i0 i1) := va_D.swap hD
  refine lv_aload_n hx hb dL_law_755 rfl (lv_at hl 2 rfl) ?_
  refine lv_aload_n hx hb dL_law_756 rfl (lv_at hl 0 rfl) ?_
  refine lv_iload_n hx hb dL_law_757 rfl (lv_at hl 3 rfl) ?_
  refine lv_iconst (v := 1) hx hb dL_law_758 (by decide) ?_
  refine lv_iadd hx hb dL_law_759 ?_
  refine va_sld hx hb hX hbl hbA hS hi1 dL_law_760 ?_
  refine lv_aload_n hx hb dL_law_761 rfl (lv_at hl 0 rfl) ?_
  refine lv_iload_n hx hb dL_law_762 rfl (lv_at hl 3 rfl) ?_
  refine lv_iconst (v := 2) hx hb dL_law_763 (by decide) ?_
  refine lv_iadd hx hb dL_law_764 ?_
  refine va_sld hx hb hX hbl hbA hS hi2 dL_law_765 ?_
  refine lv_aload_n hx hb dL_law_766 rfl (lv_at hl 0 rfl) ?_
  refine lv_iload_n hx hb dL_law_767 rfl (lv_at hl 3 rfl) ?_
  refine lv_iconst (v := 3) hx hb dL_law_768 (by decide) ?_
  refine lv_iadd hx hb dL_law_769 ?_
  refine va_sld hx hb hX hbl hbA hS hi3 dL_law_770 ?_
  obtain ⟨hPm, hDm⟩ := part_r (r := wR cy ad f i0 i1 ++ wX cy ad st) hP hD
  refine callTI (r := wR cy ad f i0 i1 ++ wX cy ad st) (w := wM cy bd mt) (rest := [.int r1]) SF (c_X11_hut l D cy tz bd mt (xs (x3 + 1).toNatClampNeg) (xs (x3 + 2).toNatClampNeg) (xs (x3 + 3).toNatClampNeg) _ h) (cw_RL_87 hts ⟨Nat.le_of_ble_eq_true rfl, Nat.le_of_ble_eq_true rfl⟩) rfl rfl (va_recv hK hPm (ci := 10) (q0 := 0) rfl rfl) hK hZ hA hP hD hS rfl hl.1 rfl (Nat.le_of_ble_eq_true rfl) dL_law_771 hcl0 (fun r2 u2 H locs h hP hD hS => ?_)
  refine lv_icmp_eq (tgt := 1069) hx hb dL_law_774 (by decide) (fun c1 => ?_) (fun c1 => ?_)
  · refine W.widen (k := cells + 10) (n := slots + 122) (by omega) (by omega) ?_
    exact next st mt f i0 i1 H locs h.2 hf hP hD hS
  · exact absurd h.1 c1
set_option maxHeartbeats 4000000 in
set_option maxRecDepth 100000 in
theorem lo_film {p : Program} {l : Launch} {e : Env} {s : State} {m : MethodId} {below : List Frame} {meth : Method} {c : Code} {D : va_G} {cy : Nat → ClassId} {tz : Nat → Nat} {b L : Nat} {xs : Nat → Int32} {LR : St → Option St → Option St → St → Prop} {ad bd : Nat → Nat} {st mt : St} {f : Nat → Option Nat} {i0 i1 : Im} {x3 : Int32} {j : Nat} {H : Heap} {locs : List Loc} {ls : Array Slot} {cells slots : Nat} {Q : State → Prop} (hL : L ≤ 3584) (hC : Lc p s m meth c D cy tz b L xs) (hop : ∀ (st mt : St) (j0 j1 : Option St) (a1 : Int32) (a2 : Int32), LR st j0 j1 mt → wp_X10_film st a1 a2 (fun r st' => wp_X11_film mt a1 a2 (fun r' mt' => r = r' ∧ LR st' j0 j1 mt'))) (hx3 : x3 = nI (7 * j)) (hj : 7 * j + 7 ≤ L) (hcl : cells + 10 ≤ 600000) (hsl : slots + 122 ≤ 7302250) (hLR : LR st (jm i0) (jm i1) mt) (hf : fOk f i0 i1) (hP : va_P D vwCl (wA cy ad bd st mt f i0 i1) H) (hD : va_D (lwA s) (wA cy ad bd st mt f i0 i1)) (hS : va_S (lwA s) s.heap H locs) (hl : lv_has ls 4 [(0, .ref b), (1, .ref (ad 0)), (2, .ref (bd 0)), (3, .int x3)]) (next : ∀ (st2 mt2 : St) (f2 : Nat → Option Nat) (k0 k1 : Im) (H : Heap) (locs : List Loc), LR st2 (jm k0) (jm k1) mt2 → fOk f2 k0 k1 → va_P D vwCl (wA cy ad bd st2 mt2 f2 k0 k1) H → va_D (lwA s) (wA cy ad bd st2 mt2 f2 k0 k1) → va_S (lwA s) s.heap H locs → W p l e room_1 s m #[Value.ref b] below meth c H locs (cells + 10) (slots + 122) Q (F0 m 1069 ls [])) : W p l e room_1 s m #[Value.ref b] below meth c H locs cells slots Q (F0 m 779 ls []) := by
  obtain ⟨hx, hb, hr, hml, hown, hts, hX, hbl, hlocks, hK, hZ, hXX⟩ := hC
  have hA : ∀ q : Nat, s.heap.size ≤ q → lwA s q := fun _ h => h
  have hbA : ¬ lwA s b := Nat.not_le.mpr hbl
  have SF : CallFix p m c code 4 s #[Value.ref b] wsL_law RL := ⟨hx, hb, hml, hown, hts⟩
  have hi1 : vp_in (x3 + 1) L := lw_in hL hx3 hj (k := 1) (by decide)
  have hi2 : vp_in (x3 + 2) L := lw_in hL hx3 hj (k := 2) (by decide)
  have hcl0 : cells ≤ room_1.cells ∧ slots ≤ room_1.slots := ⟨show cells ≤ 600000 by omega, show slots ≤ 7302250 by omega⟩
  refine lv_aload_n hx hb dL_law_779 rfl (lv_at hl 1 rfl) ?_
  refine lv_aload_n hx hb dL_law_780 rfl (lv_at hl 0 rfl) ?_
  refine lv_iload_n hx hb dL_law_781 rfl (lv_at hl 3 rfl) ?_
  refine lv_iconst (v := 1) hx hb dL_law_782 (by decide) ?_
  refine lv_iadd hx hb dL_law_783 ?_
  refine va_sld hx hb hX hbl hbA hS hi1 dL_law_784 ?_
  refine lv_aload_n hx hb dL_law_785 rfl (lv_at hl 0 rfl) ?_
  refine lv_iload_n hx hb dL_law_786 rfl (lv_at hl 3 rfl) ?_
  refine lv_iconst (v := 2) hx hb dL_law_787 (by decide) ?_
  refine lv_iadd hx hb dL_law_788 ?_
  refine va_sld hx hb hX hbl hbA hS hi2 dL_law_789 ?_
  have hP : va_P D vwCl (wB cy ad bd st mt f i0 i1) H := va_P.swap hP
  have hD : va_D (lwA s) (wB cy ad bd st mt f i0 i1) := va_D.swap hD
  obtain ⟨hPx, hDx⟩ := part_r (r := wR cy ad f i0 i1 ++ wM cy bd mt) hP hD
  refine callTI (r := wR cy ad f i0 i1 ++ wM cy bd mt) (w := wX cy ad st) (rest := []) SF (c_X10_film l D cy tz ad st (xs (x3 + 1).toNatClampNeg) (xs (x3 + 2).toNatClampNeg) _ (hop st mt (jm i0) (jm i1) (xs (x3 + 1).toNatClampNeg) (xs (x3 + 2).toNatClampNeg) hLR)) (cw_RL_88 hts ⟨Nat.le_of_ble_eq_true rfl, Nat.le_of_ble_eq_true rfl⟩) rfl rfl (va_recv hK hPx (ci := 9) (q0 := 0) rfl rfl) hK hZ hA hP hD hS rfl hl.1 rfl (Nat.le_of_ble_eq_true rfl) dL_law_790 hcl0 (fun r1 u1 H locs h hP hD hS => ?_)
  have hP : va_P D vwCl (wA cy ad bd u1 mt f i0 i1) H := va_P.swap hP
  have hD : va_D (lwA s) (wA cy ad bd u1 mt f i0 i1) := va_D.swap hD
  refine lv_aload_n hx hb dL_law_793 rfl (lv_at hl 2 rfl) ?_
  refine lv_aload_n hx hb dL_law_794 rfl (lv_at hl 0 rfl) ?_
  refine lv_iload_n hx hb dL_law_795 rfl (lv_at hl 3 rfl) ?_
  refine lv_iconst (v := 1) hx hb dL_law_796 (by decide) ?_
  refine lv_iadd hx hb dL_law_797 ?_
  refine va_sld hx hb hX hbl hbA hS hi1 dL_law_798 ?_
  refine lv_aload_n hx hb dL_law_799 rfl (lv_at hl 0 rfl) ?_
  refine lv_iload_n hx hb dL_law_800 rfl (lv_at hl 3 rfl) ?_
  refine lv_iconst (v := 2) hx hb dL_law_801 (by decide) ?_
  refine lv_iadd hx hb dL_law_802 ?_
  refine va_sld hx hb hX hbl hbA hS hi2 dL_law_803 ?_
  obtain ⟨hPm, hDm⟩ := part_r (r := wR cy ad f i0 i1 ++ wX cy ad u1) hP hD
  refine callTI (r := wR cy ad f i0 i1 ++ wX cy ad u1) (w := wM cy bd mt) (rest := [.int r1]) SF (c_X11_film l D cy tz bd mt (xs (x3 + 1).toNatClampNeg) (xs (x3 + 2).toNatClampNeg) _ h) (cw_RL_91 hts ⟨Nat.le_of_ble_eq_true rfl, Nat.le_of_ble_eq_true rfl⟩) rfl rfl (va_recv hK hPm (ci := 10) (q0 := 0) rfl rfl) hK hZ hA hP hD hS rfl hl.1 rfl (Nat.le_of_ble_eq_true rfl) dL_law_804 hcl0 (fun r2 u2 H locs h hP hD hS => ?_)
  refine lv_icmp_eq (tgt := 1069) hx hb dL_law_807 (by decide) (fun c1 => ?_) (fun c1 => ?_)
  · refine W.widen (k := cells + 10) (n := slots + 122) (by omega) (by omega) ?_
    exact next u1 u2 f i0 i1 H locs h.2 hf hP hD hS
  · exact absurd h.1 c1
set_option maxHeartbeats 4000000 in
set_option maxRecDepth 100000 in
theorem lo_clear {p : Program} {l : Launch} {e : Env} {s : State} {m : MethodId} {below : List Frame} {meth : Method} {c : Code} {D : va_G} {cy : Nat → ClassId} {tz : Nat → Nat} {b L : Nat} {xs : Nat → Int32} {LR : St → Option St → Option St → St → Prop} {ad bd : Nat → Nat} {st mt : St} {f : Nat → Option Nat} {i0 i1 : Im} {x3 : Int32} {j : Nat} {H : Heap} {locs : List Loc} {ls : Array Slot} {cells slots : Nat} {Q : State → Prop} (hL : L ≤ 3584) (hC : Lc p s m meth c D cy tz b L xs) (hop : ∀ (st mt : St) (j0 j1 : Option St), LR st j0 j1 mt → wp_X10_clear st (fun r st' => wp_X11_clear mt (fun r' mt' => r = r' ∧ LR st' j0 j1 mt'))) (hx3 : x3 = nI (7 * j)) (hj : 7 * j + 7 ≤ L) (hcl : cells + 10 ≤ 600000) (hsl : slots + 122 ≤ 7302250) (hLR : LR st (jm i0) (jm i1) mt) (hf : fOk f i0 i1) (hP : va_P D vwCl (wA cy ad bd st mt f i0 i1) H) (hD : va_D (lwA s) (wA cy ad bd st mt f i0 i1)) (hS : va_S (lwA s) s.heap H locs) (hl : lv_has ls 4 [(0, .ref b), (1, .ref (ad 0)), (2, .ref (bd 0)), (3, .int x3)]) (next : ∀ (st2 mt2 : St) (f2 : Nat → Option Nat) (k0 k1 : Im) (H : Heap) (locs : List Loc), LR st2 (jm k0) (jm k1) mt2 → fOk f2 k0 k1 → va_P D vwCl (wA cy ad bd st2 mt2 f2 k0 k1) H → va_D (lwA s) (wA cy ad bd st2 mt2 f2 k0 k1) → va_S (lwA s) s.heap H locs → W p l e room_1 s m #[Value.ref b] below meth c H locs (cells + 10) (slots + 122) Q (F0 m 1069 ls [])) : W p l e room_1 s m #[Value.ref b] below meth c H locs cells slots Q (F0 m 812 ls []) := by
  obtain ⟨hx, hb, hr, hml, hown, hts, hX, hbl, hlocks, hK, hZ, hXX⟩ := hC
  have hA : ∀ q : Nat, s.heap.size ≤ q → lwA s q := fun _ h => h
  have hbA : ¬ lwA s b := Nat.not_le.mpr hbl
  have SF : CallFix p m c code 4 s #[Value.ref b] wsL_law RL := ⟨hx, hb, hml, hown, hts⟩
  have hcl0 : cells ≤ room_1.cells ∧ slots ≤ room_1.slots := ⟨show cells ≤ 600000 by omega, show slots ≤ 7302250 by omega⟩
  refine lv_aload_n hx hb dL_law_812 rfl (lv_at hl 1 rfl) ?_
  have hP : va_P D vwCl (wB cy ad bd st mt f i0 i1) H := va_P.swap hP
  have hD : va_D (lwA s) (wB cy ad bd st mt f i0 i1) := va_D.swap hD
  obtain ⟨hPx, hDx⟩ := part_r (r := wR cy ad f i0 i1 ++ wM cy bd mt) hP hD
  refine callTI (r := wR cy ad f i0 i1 ++ wM cy bd mt) (w := wX cy ad st) (rest := []) SF (c_X10_clear l D cy tz ad st _ (hop st mt (jm i0) (jm i1) hLR)) (cw_RL_92 hts ⟨Nat.le_of_ble_eq_true rfl, Nat.le_of_ble_eq_true rfl⟩) rfl rfl (va_recv hK hPx (ci := 9) (q0 := 0) rfl rfl) hK hZ hA hP hD hS rfl hl.1 rfl (Nat.le_of_ble_eq_true rfl) dL_law_813 hcl0 (fun r1 u1 H locs h hP hD hS => ?_)
  have hP : va_P D vwCl (wA cy ad bd u1 mt f i0 i1) H := va_P.swap hP
  have hD : va_D (lwA s) (wA cy ad bd u1 mt f i0 i1) := va_D.swap hD
  refine lv_aload_n hx hb dL_law_816 rfl (lv_at hl 2 rfl) ?_
  obtain ⟨hPm, hDm⟩ := part_r (r := wR cy ad f i0 i1 ++ wX cy ad u1) hP hD
  refine callTI (r := wR cy ad f i0 i1 ++ wX cy ad u1) (w := wM cy bd mt) (rest := [.int r1]) SF (c_X11_clear l D cy tz bd mt _ h) (cw_RL_95 hts ⟨Nat.le_of_ble_eq_true rfl, Nat.le_of_ble_eq_true rfl⟩) rfl rfl (va_recv hK hPm (ci := 10) (q0 := 0) rfl rfl) hK hZ hA hP hD hS rfl hl.1 rfl (Nat.le_of_ble_eq_true rfl) dL_law_817 hcl0 (fun r2 u2 H locs h hP hD hS => ?_)
  refine lv_icmp_eq (tgt := 1069) hx hb dL_law_820 (by decide) (fun c1 => ?_) (fun c1 => ?_)
  · refine W.widen (k := cells + 10) (n := slots + 122) (by omega) (by omega) ?_
    exact next u1 u2 f i0 i1 H locs h.2 hf hP hD hS
  · exact absurd h.1 c1
set_option maxHeartbeats 4000000 in
set_option maxRecDepth 100000 in
theorem lo_bent {p : Program} {l : Launch} {e : Env} {s : State} {m : MethodId} {below : List Frame} {meth : Method} {c : Code} {D : va_G} {cy : Nat → ClassId} {tz : Nat → Nat} {b L : Nat} {xs : Nat → Int32} {LR : St → Option St → Option St → St → Prop} {ad bd : Nat → Nat} {st mt : St} {f : Nat → Option Nat} {i0 i1 : Im} {x3 : Int32} {j : Nat} {H : Heap} {locs : List Loc} {ls : Array Slot} {cells slots : Nat} {Q : State → Prop} (hL : L ≤ 3584) (hC : Lc p s m meth c D cy tz b L xs) (hop : ∀ (st mt : St) (j0 j1 : Option St) (a1 : Int32), LR st j0 j1 mt → wp_X10_bent st a1 (fun r => wp_X11_bent mt a1 (fun r' mt' => r = r' ∧ LR st j0 j1 mt'))) (hx3 : x3 = nI (7 * j)) (hj : 7 * j + 7 ≤ L) (hcl : cells + 10 ≤ 600000) (hsl : slots + 122 ≤ 7302250) (hLR : LR st (jm i0) (jm i1) mt) (hf : fOk f i0 i1) (hP : va_P D vwCl (wA cy ad bd st mt f i0 i1) H) (hD : va_D (lwA s) (wA cy ad bd st mt f i0 i1)) (hS : va_S (lwA s) s.heap H locs) (hl : lv_has ls 4 [(0, .ref b), (1, .ref (ad 0)), (2, .ref (bd 0)), (3, .int x3)]) (next : ∀ (st2 mt2 : St) (f2 : Nat → Option Nat) (k0 k1 : Im) (H : Heap) (locs : List Loc), LR st2 (jm k0) (jm k1) mt2 → fOk f2 k0 k1 → va_P D vwCl (wA cy ad bd st2 mt2 f2 k0 k1) H → va_D (lwA s) (wA cy ad bd st2 mt2 f2 k0 k1) → va_S (lwA s) s.heap H locs → W p l e room_1 s m #[Value.ref b] below meth c H locs (cells + 10) (slots + 122) Q (F0 m 1069 ls [])) : W p l e room_1 s m #[Value.ref b] below meth c H locs cells slots Q (F0 m 825 ls []) := by
  obtain ⟨hx, hb, hr, hml, hown, hts, hX, hbl, hlocks, hK, hZ, hXX⟩ := hC
  have hA : ∀ q : Nat, s.heap.size ≤ q → lwA s q := fun _ h => h
  have hbA : ¬ lwA s b := Nat.not_le.mpr hbl
  have SF : CallFix p m c code 4 s #[Value.ref b] wsL_law RL := ⟨hx, hb, hml, hown, hts⟩
  have hi1 : vp_in (x3 + 1) L := lw_in hL hx3 hj (k := 1) (by decide)
  have hcl0 : cells ≤ room_1.cells ∧ slots ≤ room_1.slots := ⟨show cells ≤ 600000 by omega, show slots ≤ 7302250 by omega⟩
  refine lv_aload_n hx hb dL_law_825 rfl (lv_at hl 1 rfl) ?_
  refine lv_aload_n hx hb dL_law_826 rfl (lv_at hl 0 rfl) ?_
  refine lv_iload_n hx hb dL_law_827 rfl (lv_at hl 3 rfl) ?_
  refine lv_iconst (v := 1) hx hb dL_law_828 (by decide) ?_
  refine lv_iadd hx hb dL_law_829 ?_
  refine va_sld hx hb hX hbl hbA hS hi1 dL_law_830 ?_
  have hP : va_P D vwCl (wB cy ad bd st mt f i0 i1) H := va_P.swap hP
  have hD : va_D (lwA s) (wB cy ad bd st mt f i0 i1) := va_D.swap hD
  obtain ⟨hPx, hDx⟩ := part_r (r := wR cy ad f i0 i1 ++ wM cy bd mt) hP hD
  refine callTI (r := wR cy ad f i0 i1 ++ wM cy bd mt) (w := wX cy ad st) (rest := []) SF (c_X10_bent l D cy tz ad st (xs (x3 + 1).toNatClampNeg) _ (hop st mt (jm i0) (jm i1) (xs (x3 + 1).toNatClampNeg) hLR)) (cw_RL_96 hts ⟨Nat.le_of_ble_eq_true rfl, Nat.le_of_ble_eq_true rfl⟩) rfl rfl (va_recv hK hPx (ci := 9) (q0 := 0) rfl rfl) hK hZ hA hP hD hS rfl hl.1 rfl (Nat.le_of_ble_eq_true rfl) dL_law_831 hcl0 (fun r1 u1 H locs h hP hD hS => ?_)
  have hP : va_P D vwCl (wA cy ad bd st mt f i0 i1) H := va_P.swap hP
  have hD : va_D (lwA s) (wA cy ad bd st mt f i0 i1) := va_D.swap hD
  refine lv_aload_n hx hb dL_law_834 rfl (lv_at hl 2 rfl) ?_
  refine lv_aload_n hx hb dL_law_835 rfl (lv_at hl 0 rfl) ?_
  refine lv_iload_n hx hb dL_law_836 rfl (lv_at hl 3 rfl) ?_
  refine lv_iconst (v := 1) hx hb dL_law_837 (by decide) ?_
  refine lv_iadd hx hb dL_law_838 ?_
  refine va_sld hx hb hX hbl hbA hS hi1 dL_law_839 ?_
  obtain ⟨hPm, hDm⟩ := part_r (r := wR cy ad f i0 i1 ++ wX cy ad st) hP hD
  refine callTI (r := wR cy ad f i0 i1 ++ wX cy ad st) (w := wM cy bd mt) (rest := [.int r1]) SF (c_X11_bent l D cy tz bd mt (xs (x3 + 1).toNatClampNeg) _ h) (cw_RL_99 hts ⟨Nat.le_of_ble_eq_true rfl, Nat.le_of_ble_eq_true rfl⟩) rfl rfl (va_recv hK hPm (ci := 10) (q0 := 0) rfl rfl) hK hZ hA hP hD hS rfl hl.1 rfl (Nat.le_of_ble_eq_true rfl) dL_law_840 hcl0 (fun r2 u2 H locs h hP hD hS => ?_)
  refine lv_icmp_eq (tgt := 1069) hx hb dL_law_843 (by decide) (fun c1 => ?_) (fun c1 => ?_)
  · refine W.widen (k := cells + 10) (n := slots + 122) (by omega) (by omega) ?_
    exact next st u2 f i0 i1 H locs h.2 hf hP hD hS
  · exact absurd h.1 c1
set_option maxHeartbeats 4000000 in
set_option maxRecDepth 100000 in
theorem lo_turned {p : Program} {l : Launch} {e : Env} {s : State} {m : MethodId} {below : List Frame} {meth : Method} {c : Code} {D : va_G} {cy : Nat → ClassId} {tz : Nat → Nat} {b L : Nat} {xs : Nat → Int32} {LR : St → Option St → Option St → St → Prop} {ad bd : Nat → Nat} {st mt : St} {f : Nat → Option Nat} {i0 i1 : Im} {x3 : Int32} {j : Nat} {H : Heap} {locs : List Loc} {ls : Array Slot} {cells slots : Nat} {Q : State → Prop} (hL : L ≤ 3584) (hC : Lc p s m meth c D cy tz b L xs) (hop : ∀ (st mt : St) (j0 j1 : Option St), LR st j0 j1 mt → wp_X10_turned st (fun r => wp_X11_turned mt (fun r' mt' => r = r' ∧ LR st j0 j1 mt'))) (hx3 : x3 = nI (7 * j)) (hj : 7 * j + 7 ≤ L) (hcl : cells + 10 ≤ 600000) (hsl : slots + 122 ≤ 7302250) (hLR : LR st (jm i0) (jm i1) mt) (hf : fOk f i0 i1) (hP : va_P D vwCl (wA cy ad bd st mt f i0 i1) H) (hD : va_D (lwA s) (wA cy ad bd st mt f i0 i1)) (hS : va_S (lwA s) s.heap H locs) (hl : lv_has ls 4 [(0, .ref b), (1, .ref (ad 0)), (2, .ref (bd 0)), (3, .int x3)]) (next : ∀ (st2 mt2 : St) (f2 : Nat → Option Nat) (k0 k1 : Im) (H : Heap) (locs : List Loc), LR st2 (jm k0) (jm k1) mt2 → fOk f2 k0 k1 → va_P D vwCl (wA cy ad bd st2 mt2 f2 k0 k1) H → va_D (lwA s) (wA cy ad bd st2 mt2 f2 k0 k1) → va_S (lwA s) s.heap H locs → W p l e room_1 s m #[Value.ref b] below meth c H locs (cells + 10) (slots + 122) Q (F0 m 1069 ls [])) : W p l e room_1 s m #[Value.ref b] below meth c H locs cells slots Q (F0 m 848 ls []) := by
  obtain ⟨hx, hb, hr, hml, hown, hts, hX, hbl, hlocks, hK, hZ, hXX⟩ := hC
  have hA : ∀ q : Nat, s.heap.size ≤ q → lwA s q := fun _ h => h
  have hbA : ¬ lwA s b := Nat.not_le.mpr hbl
  have SF : CallFix p m c code 4 s #[Value.ref b] wsL_law RL := ⟨hx, hb, hml, hown, hts⟩
  have hcl0 : cells ≤ room_1.cells ∧ slots ≤ room_1.slots := ⟨show cells ≤ 600000 by omega, show slots ≤ 7302250 by omega⟩
  refine lv_aload_n hx hb dL_law_848 rfl (lv_at hl 1 rfl) ?_
  have hP : va_P D vwCl (wB cy ad bd st mt f i0 i1) H := va_P.swap hP
  have hD : va_D (lwA s) (wB cy ad bd st mt f i0 i1) := va_D.swap hD
  obtain ⟨hPx, hDx⟩ := part_r (r := wR cy ad f i0 i1 ++ wM cy bd mt) hP hD
  refine callTI (r := wR cy ad f i0 i1 ++ wM cy bd mt) (w := wX cy ad st) (rest := []) SF (c_X10_turned l D cy tz ad st _ (hop st mt (jm i0) (jm i1) hLR)) (cw_RL_100 hts ⟨Nat.le_of_ble_eq_true rfl, Nat.le_of_ble_eq_true rfl⟩) rfl rfl (va_recv hK hPx (ci := 9) (q0 := 0) rfl rfl) hK hZ hA hP hD hS rfl hl.1 rfl (Nat.le_of_ble_eq_true rfl) dL_law_849 hcl0 (fun r1 u1 H locs h hP hD hS => ?_)
  have hP : va_P D vwCl (wA cy ad bd st mt f i0 i1) H := va_P.swap hP
  have hD : va_D (lwA s) (wA cy ad bd st mt f i0 i1) := va_D.swap hD
  refine lv_aload_n hx hb dL_law_852 rfl (lv_at hl 2 rfl) ?_
  obtain ⟨hPm, hDm⟩ := part_r (r := wR cy ad f i0 i1 ++ wX cy ad st) hP hD
  refine callTI (r := wR cy ad f i0 i1 ++ wX cy ad st) (w := wM cy bd mt) (rest := [.int r1]) SF (c_X11_turned l D cy tz bd mt _ h) (cw_RL_103 hts ⟨Nat.le_of_ble_eq_true rfl, Nat.le_of_ble_eq_true rfl⟩) rfl rfl (va_recv hK hPm (ci := 10) (q0 := 0) rfl rfl) hK hZ hA hP hD hS rfl hl.1 rfl (Nat.le_of_ble_eq_true rfl) dL_law_853 hcl0 (fun r2 u2 H locs h hP hD hS => ?_)
  refine lv_icmp_eq (tgt := 1069) hx hb dL_law_856 (by decide) (fun c1 => ?_) (fun c1 => ?_)
  · refine W.widen (k := cells + 10) (n := slots + 122) (by omega) (by omega) ?_
    exact next st u2 f i0 i1 H locs h.2 hf hP hD hS
  · exact absurd h.1 c1
set_option maxHeartbeats 4000000 in
set_option maxRecDepth 100000 in
theorem lo_span {p : Program} {l : Launch} {e : Env} {s : State} {m : MethodId} {below : List Frame} {meth : Method} {c : Code} {D : va_G} {cy : Nat → ClassId} {tz : Nat → Nat} {b L : Nat} {xs : Nat → Int32} {LR : St → Option St → Option St → St → Prop} {ad bd : Nat → Nat} {st mt : St} {f : Nat → Option Nat} {i0 i1 : Im} {x3 : Int32} {j : Nat} {H : Heap} {locs : List Loc} {ls : Array Slot} {cells slots : Nat} {Q : State → Prop} (hL : L ≤ 3584) (hC : Lc p s m meth c D cy tz b L xs) (hop : ∀ (st mt : St) (j0 j1 : Option St) (a1 : Int32) (a2 : Int32), LR st j0 j1 mt → wp_X10_span st a1 a2 (fun r => wp_X11_span mt a1 a2 (fun r' mt' => r = r' ∧ LR st j0 j1 mt'))) (hx3 : x3 = nI (7 * j)) (hj : 7 * j + 7 ≤ L) (hcl : cells + 10 ≤ 600000) (hsl : slots + 122 ≤ 7302250) (hLR : LR st (jm i0) (jm i1) mt) (hf : fOk f i0 i1) (hP : va_P D vwCl (wA cy ad bd st mt f i0 i1) H) (hD : va_D (lwA s) (wA cy ad bd st mt f i0 i1)) (hS : va_S (lwA s) s.heap H locs) (hl : lv_has ls 4 [(0, .ref b), (1, .ref (ad 0)), (2, .ref (bd 0)), (3, .int x3)]) (next : ∀ (st2 mt2 : St) (f2 : Nat → Option Nat) (k0 k1 : Im) (H : Heap) (locs : List Loc), LR st2 (jm k0) (jm k1) mt2 → fOk f2 k0 k1 → va_P D vwCl (wA cy ad bd st2 mt2 f2 k0 k1) H → va_D (lwA s) (wA cy ad bd st2 mt2 f2 k0 k1) → va_S (lwA s) s.heap H locs → W p l e room_1 s m #[Value.ref b] below meth c H locs (cells + 10) (slots + 122) Q (F0 m 1069 ls [])) : W p l e room_1 s m #[Value.ref b] below meth c H locs cells slots Q (F0 m 861 ls []) := by
  obtain ⟨hx, hb, hr, hml, hown, hts, hX, hbl, hlocks, hK, hZ, hXX⟩ := hC
  have hA : ∀ q : Nat, s.heap.size ≤ q → lwA s q := fun _ h => h
  have hbA : ¬ lwA s b := Nat.not_le.mpr hbl
  have SF : CallFix p m c code 4 s #[Value.ref b] wsL_law RL := ⟨hx, hb, hml, hown, hts⟩
  have hi1 : vp_in (x3 + 1) L := lw_in hL hx3 hj (k := 1) (by decide)
  have hi2 : vp_in (x3 + 2) L := lw_in hL hx3 hj (k := 2) (by decide)
  have hcl0 : cells ≤ room_1.cells ∧ slots ≤ room_1.slots := ⟨show cells ≤ 600000 by omega, show slots ≤ 7302250 by omega⟩
  refine lv_aload_n hx hb dL_law_861 rfl (lv_at hl 1 rfl) ?_
  refine lv_aload_n hx hb dL_law_862 rfl (lv_at hl 0 rfl) ?_
  refine lv_iload_n hx hb dL_law_863 rfl (lv_at hl 3 rfl) ?_
  refine lv_iconst (v := 1) hx hb dL_law_864 (by decide) ?_
  refine lv_iadd hx hb dL_law_865 ?_
  refine va_sld hx hb hX hbl hbA hS hi1 dL_law_866 ?_
  refine lv_aload_n hx hb dL_law_867 rfl (lv_at hl 0 rfl) ?_
  refine lv_iload_n hx hb dL_law_868 rfl (lv_at hl 3 rfl) ?_
  refine lv_iconst (v := 2) hx hb dL_law_869 (by decide) ?_
  refine lv_iadd hx hb dL_law_870 ?_
  refine va_sld hx hb hX hbl hbA hS hi2 dL_law_871 ?_
  have hP : va_P D vwCl (wB cy ad bd st mt f i0 i1) H := va_P.swap hP
  have hD : va_D (lwA s) (wB cy ad bd st mt f i0 i1) := va_D.swap hD
  obtain ⟨hPx, hDx⟩ := part_r (r := wR cy ad f i0 i1 ++ wM cy bd mt) hP hD
  refine callTI (r := wR cy ad f i0 i1 ++ wM cy bd mt) (w := wX cy ad st) (rest := []) SF (c_X10_span l D cy tz ad st (xs (x3 + 1).toNatClampNeg) (xs (x3 + 2).toNatClampNeg) _ (hop st mt (jm i0) (jm i1) (xs (x3 + 1).toNatClampNeg) (xs (x3 + 2).toNatClampNeg) hLR)) (cw_RL_104 hts ⟨Nat.le_of_ble_eq_true rfl, Nat.le_of_ble_eq_true rfl⟩) rfl rfl (va_recv hK hPx (ci := 9) (q0 := 0) rfl rfl) hK hZ hA hP hD hS rfl hl.1 rfl (Nat.le_of_ble_eq_true rfl) dL_law_872 hcl0 (fun r1 u1 H locs h hP hD hS => ?_)
  have hP : va_P D vwCl (wA cy ad bd st mt f i0 i1) H := va_P.swap hP
  have hD : va_D (lwA s) (wA cy ad bd st mt f i0 i1) := va_D.swap hD
  refine lv_aload_n hx hb dL_law_875 rfl (lv_at hl 2 rfl) ?_
  refine lv_aload_n hx hb dL_law_876 rfl (lv_at hl 0 rfl) ?_
  refine lv_iload_n hx hb dL_law_877 rfl (lv_at hl 3 rfl) ?_
  refine lv_iconst (v := 1) hx hb dL_law_878 (by decide) ?_
  refine lv_iadd hx hb dL_law_879 ?_
  refine va_sld hx hb hX hbl hbA hS hi1 dL_law_880 ?_
  refine lv_aload_n hx hb dL_law_881 rfl (lv_at hl 0 rfl) ?_
  refine lv_iload_n hx hb dL_law_882 rfl (lv_at hl 3 rfl) ?_
  refine lv_iconst (v := 2) hx hb dL_law_883 (by decide) ?_
  refine lv_iadd hx hb dL_law_884 ?_
  refine va_sld hx hb hX hbl hbA hS hi2 dL_law_885 ?_
  obtain ⟨hPm, hDm⟩ := part_r (r := wR cy ad f i0 i1 ++ wX cy ad st) hP hD
  refine callTI (r := wR cy ad f i0 i1 ++ wX cy ad st) (w := wM cy bd mt) (rest := [.int r1]) SF (c_X11_span l D cy tz bd mt (xs (x3 + 1).toNatClampNeg) (xs (x3 + 2).toNatClampNeg) _ h) (cw_RL_107 hts ⟨Nat.le_of_ble_eq_true rfl, Nat.le_of_ble_eq_true rfl⟩) rfl rfl (va_recv hK hPm (ci := 10) (q0 := 0) rfl rfl) hK hZ hA hP hD hS rfl hl.1 rfl (Nat.le_of_ble_eq_true rfl) dL_law_886 hcl0 (fun r2 u2 H locs h hP hD hS => ?_)
  refine lv_icmp_eq (tgt := 1069) hx hb dL_law_889 (by decide) (fun c1 => ?_) (fun c1 => ?_)
  · refine W.widen (k := cells + 10) (n := slots + 122) (by omega) (by omega) ?_
    exact next st u2 f i0 i1 H locs h.2 hf hP hD hS
  · exact absurd h.1 c1
set_option maxHeartbeats 4000000 in
set_option maxRecDepth 100000 in
theorem lo_learns {p : Program} {l : Launch} {e : Env} {s : State} {m : MethodId} {below : List Frame} {meth : Method} {c : Code} {D : va_G} {cy : Nat → ClassId} {tz : Nat → Nat} {b L : Nat} {xs : Nat → Int32} {LR : St → Option St → Option St → St → Prop} {ad bd : Nat → Nat} {st mt : St} {f : Nat → Option Nat} {i0 i1 : Im} {x3 : Int32} {j : Nat} {H : Heap} {locs : List Loc} {ls : Array Slot} {cells slots : Nat} {Q : State → Prop} (hL : L ≤ 3584) (hC : Lc p s m meth c D cy tz b L xs) (hop : ∀ (st mt : St) (j0 j1 : Option St) (a1 : Int32) (a2 : Int32) (a3 : Int32) (a4 : Int32), LR st j0 j1 mt → wp_X10_learns st a1 a2 a3 a4 (fun r st' => wp_X11_learns mt a1 a2 a3 a4 (fun r' mt' => r = r' ∧ LR st' j0 j1 mt'))) (hx3 : x3 = nI (7 * j)) (hj : 7 * j + 7 ≤ L) (hcl : cells + 10 ≤ 600000) (hsl : slots + 122 ≤ 7302250) (hLR : LR st (jm i0) (jm i1) mt) (hf : fOk f i0 i1) (hP : va_P D vwCl (wA cy ad bd st mt f i0 i1) H) (hD : va_D (lwA s) (wA cy ad bd st mt f i0 i1)) (hS : va_S (lwA s) s.heap H locs) (hl : lv_has ls 4 [(0, .ref b), (1, .ref (ad 0)), (2, .ref (bd 0)), (3, .int x3)]) (next : ∀ (st2 mt2 : St) (f2 : Nat → Option Nat) (k0 k1 : Im) (H : Heap) (locs : List Loc), LR st2 (jm k0) (jm k1) mt2 → fOk f2 k0 k1 → va_P D vwCl (wA cy ad bd st2 mt2 f2 k0 k1) H → va_D (lwA s) (wA cy ad bd st2 mt2 f2 k0 k1) → va_S (lwA s) s.heap H locs → W p l e room_1 s m #[Value.ref b] below meth c H locs (cells + 10) (slots + 122) Q (F0 m 1069 ls [])) : W p l e room_1 s m #[Value.ref b] below meth c H locs cells slots Q (F0 m 894 ls []) := by
  obtain ⟨hx, hb, hr, hml, hown, hts, hX, hbl, hlocks, hK, hZ, hXX⟩ := hC
  have hA : ∀ q : Nat, s.heap.size ≤ q → lwA s q := fun _ h => h
  have hbA : ¬ lwA s b := Nat.not_le.mpr hbl
  have SF : CallFix p m c code 4 s #[Value.ref b] wsL_law RL := ⟨hx, hb, hml, hown, hts⟩
  have hi1 : vp_in (x3 + 1) L := lw_in hL hx3 hj (k := 1) (by decide)
  have hi2 : vp_in (x3 + 2) L := lw_in hL hx3 hj (k := 2) (by decide)
  have hi3 : vp_in (x3 + 3) L := lw_in hL hx3 hj (k := 3) (by decide)
  have hi4 : vp_in (x3 + 4) L := lw_in hL hx3 hj (k := 4) (by decide)
  have hcl0 : cells ≤ room_1.cells ∧ slots ≤ room_1.slots := ⟨show cells ≤ 600000 by omega, show slots ≤ 7302250 by omega⟩
  refine lv_aload_n hx hb dL_law_894 rfl (lv_at hl 1 rfl) ?_
  refine lv_aload_n hx hb dL_law_895 rfl (lv_at hl 0 rfl) ?_
  refine lv_iload_n hx hb dL_law_896 rfl (lv_at hl 3 rfl) ?_
  refine lv_iconst (v := 1) hx hb dL_law_897 (by decide) ?_
  refine lv_iadd hx hb dL_law_898 ?_
  refine va_sld hx hb hX hbl hbA hS hi1 dL_law_899 ?_
  refine lv_aload_n hx hb dL_law_900 rfl (lv_at hl 0 rfl) ?_
  refine lv_iload_n hx hb dL_law_901 rfl (lv_at hl 3 rfl) ?_
  refine lv_iconst (v := 2) hx hb dL_law_902 (by decide) ?_
  refine lv_iadd hx hb dL_law_903 ?_
  refine va_sld hx hb hX hbl hbA hS hi2 dL_law_904 ?_
  refine lv_aload_n hx hb dL_law_905 rfl (lv_at hl 0 rfl) ?_
  refine lv_iload_n hx hb dL_law_906 rfl (lv_at hl 3 rfl) ?_
  refine lv_iconst (v := 3) hx hb dL_law_907 (by decide) ?_
  refine lv_iadd hx hb dL_law_908 ?_
  refine va_sld hx hb hX hbl hbA hS hi3 dL_law_909 ?_
  refine lv_aload_n hx hb dL_law_910 rfl (lv_at hl 0 rfl) ?_
  refine lv_iload_n hx hb dL_law_911 rfl (lv_at hl 3 rfl) ?_
  refine lv_iconst (v := 4) hx hb dL_law_912 (by decide) ?_
  refine lv_iadd hx hb dL_law_913 ?_
  refine va_sld hx hb hX hbl hbA hS hi4 dL_law_914 ?_
  have hP : va_P D vwCl (wB cy ad bd st mt f i0 i1) H := va_P.swap hP
  have hD : va_D (lwA s) (wB cy ad bd st mt f i0 i1) := va_D.swap hD
  obtain ⟨hPx, hDx⟩ := part_r (r := wR cy ad f i0 i1 ++ wM cy bd mt) hP hD
  refine callTI (r := wR cy ad f i0 i1 ++ wM cy bd mt) (w := wX cy ad st) (rest := []) SF (c_X10_learns l D cy tz ad st (xs (x3 + 1).toNatClampNeg) (xs (x3 + 2).toNatClampNeg) (xs (x3 + 3).toNatClampNeg) (xs (x3 + 4).toNatClampNeg) _ (hop st mt (jm i0) (jm i1) (xs (x3 + 1).toNatClampNeg) (xs (x3 + 2).toNatClampNeg) (xs (x3 + 3).toNatClampNeg) (xs (x3 + 4).toNatClampNeg) hLR)) (cw_RL_108 hts ⟨Nat.le_of_ble_eq_true rfl, Nat.le_of_ble_eq_true rfl⟩) rfl rfl (va_recv hK hPx (ci := 9) (q0 := 0) rfl rfl) hK hZ hA hP hD hS rfl hl.1 rfl (Nat.le_of_ble_eq_true rfl) dL_law_915 hcl0 (fun r1 u1 H locs h hP hD hS => ?_)
  have hP : va_P D vwCl (wA cy ad bd u1 mt f i0 i1) H := va_P.swap hP
  have hD : va_D (lwA s) (wA cy ad bd u1 mt f i0 i1) := va_D.swap hD
  refine lv_aload_n hx hb dL_law_918 rfl (lv_at hl 2 rfl) ?_
  refine lv_aload_n hx hb dL_law_919 rfl (lv_at hl 0 rfl) ?_
  refine lv_iload_n hx hb dL_law_920 rfl (lv_at hl 3 rfl) ?_
  refine lv_iconst (v := 1) hx hb dL_law_921 (by decide) ?_
  refine lv_iadd hx hb dL_law_922 ?_
  refine va_sld hx hb hX hbl hbA hS hi1 dL_law_923 ?_
  refine lv_aload_n hx hb dL_law_924 rfl (lv_at hl 0 rfl) ?_
  refine lv_iload_n hx hb dL_law_925 rfl (lv_at hl 3 rfl) ?_
  refine lv_iconst (v := 2) hx hb dL_law_926 (by decide) ?_
  refine lv_iadd hx hb dL_law_927 ?_
  refine va_sld hx hb hX hbl hbA hS hi2 dL_law_928 ?_
  refine lv_aload_n hx hb dL_law_929 rfl (lv_at hl 0 rfl) ?_
  refine lv_iload_n hx hb dL_law_930 rfl (lv_at hl 3 rfl) ?_
  refine lv_iconst (v := 3) hx hb dL_law_931 (by decide) ?_
  refine lv_iadd hx hb dL_law_932 ?_
  refine va_sld hx hb hX hbl hbA hS hi3 dL_law_933 ?_
  refine lv_aload_n hx hb dL_law_934 rfl (lv_at hl 0 rfl) ?_
  refine lv_iload_n hx hb dL_law_935 rfl (lv_at hl 3 rfl) ?_
  refine lv_iconst (v := 4) hx hb dL_law_936 (by decide) ?_
  refine lv_iadd hx hb dL_law_937 ?_
  refine va_sld hx hb hX hbl hbA hS hi4 dL_law_938 ?_
  obtain ⟨hPm, hDm⟩ := part_r (r := wR cy ad f i0 i1 ++ wX cy ad u1) hP hD
  refine callTI (r := wR cy ad f i0 i1 ++ wX cy ad u1) (w := wM cy bd mt) (rest := [.int r1]) SF (c_X11_learns l D cy tz bd mt (xs (x3 + 1).toNatClampNeg) (xs (x3 + 2).toNatClampNeg) (xs (x3 + 3).toNatClampNeg) (xs (x3 + 4).toNatClampNeg) _ h) (cw_RL_111 hts ⟨Nat.le_of_ble_eq_true rfl, Nat.le_of_ble_eq_true rfl⟩) rfl rfl (va_recv hK hPm (ci := 10) (q0 := 0) rfl rfl) hK hZ hA hP hD hS rfl hl.1 rfl (Nat.le_of_ble_eq_true rfl) dL_law_939 hcl0 (fun r2 u2 H locs h hP hD hS => ?_)
  refine lv_icmp_eq (tgt := 1069) hx hb dL_law_942 (by decide) (fun c1 => ?_) (fun c1 => ?_)
  · refine W.widen (k := cells + 10) (n := slots + 122) (by omega) (by omega) ?_
    exact next u1 u2 f i0 i1 H locs h.2 hf hP hD hS
  · exact absurd h.1 c1
set_option maxHeartbeats 4000000 in
set_option maxRecDepth 100000 in
theorem lo_along {p : Program} {l : Launch} {e : Env} {s : State} {m : MethodId} {below : List Frame} {meth : Method} {c : Code} {D : va_G} {cy : Nat → ClassId} {tz : Nat → Nat} {b L : Nat} {xs : Nat → Int32} {LR : St → Option St → Option St → St → Prop} {ad bd : Nat → Nat} {st mt : St} {f : Nat → Option Nat} {i0 i1 : Im} {x3 : Int32} {j : Nat} {H : Heap} {locs : List Loc} {ls : Array Slot} {cells slots : Nat} {Q : State → Prop} (hL : L ≤ 3584) (hC : Lc p s m meth c D cy tz b L xs) (hop : ∀ (st mt : St) (j0 j1 : Option St) (a1 : Int32) (a2 : Int32) (a3 : Int32) (a4 : Int32), LR st j0 j1 mt → wp_X10_along st a1 a2 a3 a4 (fun r st' => wp_X11_along mt a1 a2 a3 a4 (fun r' mt' => r = r' ∧ LR st' j0 j1 mt'))) (hx3 : x3 = nI (7 * j)) (hj : 7 * j + 7 ≤ L) (hcl : cells + 10 ≤ 600000) (hsl : slots + 122 ≤ 7302250) (hLR : LR st (jm i0) (jm i1) mt) (hf : fOk f i0 i1) (hP : va_P D vwCl (wA cy ad bd st mt f i0 i1) H) (hD : va_D (lwA s) (wA cy ad bd st mt f i0 i1)) (hS : va_S (lwA s) s.heap H locs) (hl : lv_has ls 4 [(0, .ref b), (1, .ref (ad 0)), (2, .ref (bd 0)), (3, .int x3)]) (next : ∀ (st2 mt2 : St) (f2 : Nat → Option Nat) (k0 k1 : Im) (H : Heap) (locs : List Loc), LR st2 (jm k0) (jm k1) mt2 → fOk f2 k0 k1 → va_P D vwCl (wA cy ad bd st2 mt2 f2 k0 k1) H → va_D (lwA s) (wA cy ad bd st2 mt2 f2 k0 k1) → va_S (lwA s) s.heap H locs → W p l e room_1 s m #[Value.ref b] below meth c H locs (cells + 10) (slots + 122) Q (F0 m 1069 ls [])) : W p l e room_1 s m #[Value.ref b] below meth c H locs cells slots Q (F0 m 947 ls []) := by
  obtain ⟨hx, hb, hr, hml, hown, hts, hX, hbl, hlocks, hK, hZ, hXX⟩ := hC
  have hA : ∀ q : Nat, s.heap.size ≤ q → lwA s q := fun _ h => h
  have hbA : ¬ lwA s b := Nat.not_le.mpr hbl
  have SF : CallFix p m c code 4 s #[Value.ref b] wsL_law RL := ⟨hx, hb, hml, hown, hts⟩
  have hi1 : vp_in (x3 + 1) L := lw_in hL hx3 hj (k := 1) (by decide)
  have hi2 : vp_in (x3 + 2) L := lw_in hL hx3 hj (k := 2) (by decide)
  have hi3 : vp_in (x3 + 3) L := lw_in hL hx3 hj (k := 3) (by decide)
  have hi4 : vp_in (x3 + 4) L := lw_in hL hx3 hj (k := 4) (by decide)
  have hcl0 : cells ≤ room_1.cells ∧ slots ≤ room_1.slots := ⟨show cells ≤ 600000 by omega, show slots ≤ 7302250 by omega⟩
  refine lv_aload_n hx hb dL_law_947 rfl (lv_at hl 1 rfl) ?_
  refine lv_aload_n hx hb dL_law_948 rfl (lv_at hl 0 rfl) ?_
  refine lv_iload_n hx hb dL_law_949 rfl (lv_at hl 3 rfl) ?_
  refine lv_iconst (v := 1) hx hb dL_law_950 (by decide) ?_
  refine lv_iadd hx hb dL_law_951 ?_
  refine va_sld hx hb hX hbl hbA hS hi1 dL_law_952 ?_
  refine lv_aload_n hx hb dL_law_953 rfl (lv_at hl 0 rfl) ?_
  refine lv_iload_n hx hb dL_law_954 rfl (lv_at hl 3 rfl) ?_
  refine lv_iconst (v := 2) hx hb dL_law_955 (by decide) ?_
  refine lv_iadd hx hb dL_law_956 ?_
  refine va_sld hx hb hX hbl hbA hS hi2 dL_law_957 ?_
  refine lv_aload_n hx hb dL_law_958 rfl (lv_at hl 0 rfl) ?_
  refine lv_iload_n hx hb dL_law_959 rfl (lv_at hl 3 rfl) ?_
  refine lv_iconst (v := 3) hx hb dL_law_960 (by decide) ?_
  refine lv_iadd hx hb dL_law_961 ?_
  refine va_sld hx hb hX hbl hbA hS hi3 dL_law_962 ?_
  refine lv_aload_n hx hb dL_law_963 rfl (lv_at hl 0 rfl) ?_
  refine lv_iload_n hx hb dL_law_964 rfl (lv_at hl 3 rfl) ?_
  refine lv_iconst (v := 4) hx hb dL_law_965 (by decide) ?_
  refine lv_iadd hx hb dL_law_966 ?_
  refine va_sld hx hb hX hbl hbA hS hi4 dL_law_967 ?_
  have hP : va_P D vwCl (wB cy ad bd st mt f i0 i1) H := va_P.swap hP
  have hD : va_D (lwA s) (wB cy ad bd st mt f i0 i1) := va_D.swap hD
  obtain ⟨hPx, hDx⟩ := part_r (r := wR cy ad f i0 i1 ++ wM cy bd mt) hP hD
  refine callTI (r := wR cy ad f i0 i1 ++ wM cy bd mt) (w := wX cy ad st) (rest := []) SF (c_X10_along l D cy tz ad st (xs (x3 + 1).toNatClampNeg) (xs (x3 + 2).toNatClampNeg) (xs (x3 + 3).toNatClampNeg) (xs (x3 + 4).toNatClampNeg) _ (hop st mt (jm i0) (jm i1) (xs (x3 + 1).toNatClampNeg) (xs (x3 + 2).toNatClampNeg) (xs (x3 + 3).toNatClampNeg) (xs (x3 + 4).toNatClampNeg) hLR)) (cw_RL_112 hts ⟨Nat.le_of_ble_eq_true rfl, Nat.le_of_ble_eq_true rfl⟩) rfl rfl (va_recv hK hPx (ci := 9) (q0 := 0) rfl rfl) hK hZ hA hP hD hS rfl hl.1 rfl (Nat.le_of_ble_eq_true rfl) dL_law_968 hcl0 (fun r1 u1 H locs h hP hD hS => ?_)
  have hP : va_P D vwCl (wA cy ad bd u1 mt f i0 i1) H := va_P.swap hP
  have hD : va_D (lwA s) (wA cy ad bd u1 mt f i0 i1) := va_D.swap hD
  refine lv_aload_n hx hb dL_law_971 rfl (lv_at hl 2 rfl) ?_
  refine lv_aload_n hx hb dL_law_972 rfl (lv_at hl 0 rfl) ?_
  refine lv_iload_n hx hb dL_law_973 rfl (lv_at hl 3 rfl) ?_
  refine lv_iconst (v := 1) hx hb dL_law_974 (by decide) ?_
  refine lv_iadd hx hb dL_law_975 ?_
  refine va_sld hx hb hX hbl hbA hS hi1 dL_law_976 ?_
  refine lv_aload_n hx hb dL_law_977 rfl (lv_at hl 0 rfl) ?_
  refine lv_iload_n hx hb dL_law_978 rfl (lv_at hl 3 rfl) ?_
  refine lv_iconst (v := 2) hx hb dL_law_979 (by decide) ?_
  refine lv_iadd hx hb dL_law_980 ?_
  refine va_sld hx hb hX hbl hbA hS hi2 dL_law_981 ?_
  refine lv_aload_n hx hb dL_law_982 rfl (lv_at hl 0 rfl) ?_
  refine lv_iload_n hx hb dL_law_983 rfl (lv_at hl 3 rfl) ?_
  refine lv_iconst (v := 3) hx hb dL_law_984 (by decide) ?_
  refine lv_iadd hx hb dL_law_985 ?_
  refine va_sld hx hb hX hbl hbA hS hi3 dL_law_986 ?_
  refine lv_aload_n hx hb dL_law_987 rfl (lv_at hl 0 rfl) ?_
  refine lv_iload_n hx hb dL_law_988 rfl (lv_at hl 3 rfl) ?_
  refine lv_iconst (v := 4) hx hb dL_law_989 (by decide) ?_
  refine lv_iadd hx hb dL_law_990 ?_
  refine va_sld hx hb hX hbl hbA hS hi4 dL_law_991 ?_
  obtain ⟨hPm, hDm⟩ := part_r (r := wR cy ad f i0 i1 ++ wX cy ad u1) hP hD
  refine callTI (r := wR cy ad f i0 i1 ++ wX cy ad u1) (w := wM cy bd mt) (rest := [.int r1]) SF (c_X11_along l D cy tz bd mt (xs (x3 + 1).toNatClampNeg) (xs (x3 + 2).toNatClampNeg) (xs (x3 + 3).toNatClampNeg) (xs (x3 + 4).toNatClampNeg) _ h) (cw_RL_115 hts ⟨Nat.le_of_ble_eq_true rfl, Nat.le_of_ble_eq_true rfl⟩) rfl rfl (va_recv hK hPm (ci := 10) (q0 := 0) rfl rfl) hK hZ hA hP hD hS rfl hl.1 rfl (Nat.le_of_ble_eq_true rfl) dL_law_992 hcl0 (fun r2 u2 H locs h hP hD hS => ?_)
  refine lv_icmp_eq (tgt := 1069) hx hb dL_law_995 (by decide) (fun c1 => ?_) (fun c1 => ?_)
  · refine W.widen (k := cells + 10) (n := slots + 122) (by omega) (by omega) ?_
    exact next u1 u2 f i0 i1 H locs h.2 hf hP hD hS
  · exact absurd h.1 c1
set_option maxHeartbeats 4000000 in
set_option maxRecDepth 100000 in
theorem lo_image {p : Program} {l : Launch} {e : Env} {s : State} {m : MethodId} {below : List Frame} {meth : Method} {c : Code} {D : va_G} {cy : Nat → ClassId} {tz : Nat → Nat} {b L : Nat} {xs : Nat → Int32} {LR : St → Option St → Option St → St → Prop} {ad bd : Nat → Nat} {st mt : St} {f : Nat → Option Nat} {i0 i1 : Im} {x3 : Int32} {j : Nat} {H : Heap} {locs : List Loc} {ls : Array Slot} {cells slots : Nat} {Q : State → Prop} (hL : L ≤ 3584) (hC : Lc p s m meth c D cy tz b L xs) (hq0 : ∀ (st mt : St) (j0 j1 : Option St), LR st j0 j1 mt → wp_X11_image mt 0 (fun r mt' => r = 1 ∧ LR st (some (cpS (j0.getD si0) st)) j1 mt')) (hq1 : ∀ (st mt : St) (j0 j1 : Option St), LR st j0 j1 mt → wp_X11_image mt 1 (fun r mt' => r = 1 ∧ LR st j0 (some (cpS (j1.getD si0) st)) mt')) (hx2 : ∀ (st mt : St) (j0 j1 : Option St) (n : Int32), n ≠ 0 → n ≠ 1 → LR st j0 j1 mt → wp_X11_image mt n (fun r mt' => r = (-2) ∧ LR st j0 j1 mt')) (hx3 : x3 = nI (7 * j)) (hj : 7 * j + 7 ≤ L) (hcl : cells + 10 ≤ 600000) (hsl : slots + 122 ≤ 7302250) (hLR : LR st (jm i0) (jm i1) mt) (hf : fOk f i0 i1) (hP : va_P D vwCl (wA cy ad bd st mt f i0 i1) H) (hD : va_D (lwA s) (wA cy ad bd st mt f i0 i1)) (hS : va_S (lwA s) s.heap H locs) (hl : lv_has ls 4 [(0, .ref b), (1, .ref (ad 0)), (2, .ref (bd 0)), (3, .int x3)]) (next : ∀ (st2 mt2 : St) (f2 : Nat → Option Nat) (k0 k1 : Im) (H : Heap) (locs : List Loc), LR st2 (jm k0) (jm k1) mt2 → fOk f2 k0 k1 → va_P D vwCl (wA cy ad bd st2 mt2 f2 k0 k1) H → va_D (lwA s) (wA cy ad bd st2 mt2 f2 k0 k1) → va_S (lwA s) s.heap H locs → W p l e room_1 s m #[Value.ref b] below meth c H locs (cells + 10) (slots + 122) Q (F0 m 1069 ls [])) : W p l e room_1 s m #[Value.ref b] below meth c H locs cells slots Q (F0 m 1000 ls []) := by
  obtain ⟨hx, hb, hr, hml, hown, hts, hX, hbl, hlocks, hK, hZ, hXX⟩ := hC
  have hA : ∀ q : Nat, s.heap.size ≤ q → lwA s q := fun _ h => h
  have hbA : ¬ lwA s b := Nat.not_le.mpr hbl
  have SF : CallFix p m c code 4 s #[Value.ref b] wsL_law RL := ⟨hx, hb, hml, hown, hts⟩
  have hi1 : vp_in (x3 + 1) L := lw_in hL hx3 hj (k := 1) (by decide)
  have hcl0 : cells ≤ room_1.cells ∧ slots ≤ room_1.slots := ⟨show cells ≤ 600000 by omega, show slots ≤ 7302250 by omega⟩
  refine lv_aload_n hx hb dL_law_1000 rfl (lv_at hl 1 rfl) ?_
  refine lv_aload_n hx hb dL_law_1001 rfl (lv_at hl 0 rfl) ?_
  refine lv_iload_n hx hb dL_law_1002 rfl (lv_at hl 3 rfl) ?_
  refine lv_iconst (v := 1) hx hb dL_law_1003 (by decide) ?_
  refine lv_iadd hx hb dL_law_1004 ?_
  refine va_sld hx hb hX hbl hbA hS hi1 dL_law_1005 ?_
  have pm := pmY cy ad bd st mt f i0 i1
  have hP := pm_P pm hP
  have hD := pm_D pm hD
  obtain ⟨hPx, hDx⟩ := part_r (r := wM cy bd mt) hP hD
  generalize ha1 : xs (x3 + 1).toNatClampNeg = a1
  by_cases n0 : a1 = 0
  · subst n0
    cases i0 with
    | none =>
      have hf0 : f 0 = none := hf.1
      refine callTN (r := wM cy bd mt) (w := wY cy ad st f (none) i1) (rest := []) SF (c_X10_image_0n l D cy tz ad st f i1 hf0) (cw_RL_116 hts ⟨Nat.le_of_ble_eq_true rfl, Nat.le_of_ble_eq_true rfl⟩) (va_recv hK hPx (ci := 9) (q0 := 0) rfl rfl) hK hZ hXX hA hP hD hS rfl hl.1 rfl (Nat.le_of_ble_eq_true rfl) dL_law_1006 ⟨show cells + 10 ≤ 600000 by omega, show slots + 122 ≤ 7302250 by omega⟩ (fun r1 u1 H locs h1 hP hD hS => ?_)
      have pm2 := (pmY cy ad bd st mt u1.2 (some (u1.1, cpS si0 st)) i1).symm
      have hP := pm_P pm2 hP
      have hD := pm_D pm2 hD
      have h := hq0 st mt _ _ hLR
      refine lv_aload_n hx hb dL_law_1009 rfl (lv_at hl 2 rfl) ?_
      refine lv_aload_n hx hb dL_law_1010 rfl (lv_at hl 0 rfl) ?_
      refine lv_iload_n hx hb dL_law_1011 rfl (lv_at hl 3 rfl) ?_
      refine lv_iconst (v := 1) hx hb dL_law_1012 (by decide) ?_
      refine lv_iadd hx hb dL_law_1013 ?_
      refine va_sld hx hb hX hbl hbA hS hi1 dL_law_1014 ?_
      rw [ha1]
      obtain ⟨hPm, hDm⟩ := part_r (r := wR cy ad u1.2 (some (u1.1, cpS si0 st)) i1 ++ wX cy ad st) hP hD
      refine callTI (r := wR cy ad u1.2 (some (u1.1, cpS si0 st)) i1 ++ wX cy ad st) (w := wM cy bd mt) (rest := [.int r1]) SF (c_X11_image l D cy tz bd mt _ _ h) (cw_RL_119 hts ⟨Nat.le_of_ble_eq_true rfl, Nat.le_of_ble_eq_true rfl⟩) rfl rfl (va_recv hK hPm (ci := 10) (q0 := 0) rfl rfl) hK hZ hA hP hD hS rfl hl.1 rfl (Nat.le_of_ble_eq_true rfl) dL_law_1015 ⟨show cells + 10 ≤ 600000 by omega, show slots + 122 ≤ 7302250 by omega⟩ (fun r2 u2 H locs h hP hD hS => ?_)
      refine lv_icmp_eq (tgt := 1069) hx hb dL_law_1018 (by decide) (fun c1 => ?_) (fun c1 => ?_)
      · exact next st u2 u1.2 (some (u1.1, cpS si0 st)) i1 H locs (h.2) ⟨by rw [h1.2]; rfl, by rw [h1.2]; exact hf.2⟩ hP hD hS
      · exact absurd (h1.1.trans h.1.symm) c1
    | some q =>
      obtain ⟨b1, s1⟩ := q
      have hf0 : f 0 = some (b1 3) := hf.1
      refine callTN (r := wM cy bd mt) (w := wY cy ad st f (some (b1, s1)) i1) (rest := []) SF (c_X10_image_0 l D cy tz ad st f b1 s1 i1 hf0) (cw_RL_116 hts ⟨Nat.le_of_ble_eq_true rfl, Nat.le_of_ble_eq_true rfl⟩) (va_recv hK hPx (ci := 9) (q0 := 0) rfl rfl) hK hZ hXX hA hP hD hS rfl hl.1 rfl (Nat.le_of_ble_eq_true rfl) dL_law_1006 ⟨show cells + 10 ≤ 600000 by omega, show slots + 122 ≤ 7302250 by omega⟩ (fun r1 u1 H locs h1 hP hD hS => ?_)
      have pm2 := (pmY cy ad bd st mt f (some (b1, u1)) i1).symm
      have hP := pm_P pm2 hP
      have hD := pm_D pm2 hD
      have h := hq0 st mt _ _ hLR
      refine lv_aload_n hx hb dL_law_1009 rfl (lv_at hl 2 rfl) ?_
      refine lv_aload_n hx hb dL_law_1010 rfl (lv_at hl 0 rfl) ?_
      refine lv_iload_n hx hb dL_law_1011 rfl (lv_at hl 3 rfl) ?_
      refine lv_iconst (v := 1) hx hb dL_law_1012 (by decide) ?_
      refine lv_iadd hx hb dL_law_1013 ?_
      refine va_sld hx hb hX hbl hbA hS hi1 dL_law_1014 ?_
      rw [ha1]
      obtain ⟨hPm, hDm⟩ := part_r (r := wR cy ad f (some (b1, u1)) i1 ++ wX cy ad st) hP hD
      refine callTI (r := wR cy ad f (some (b1, u1)) i1 ++ wX cy ad st) (w := wM cy bd mt) (rest := [.int r1]) SF (c_X11_image l D cy tz bd mt _ _ h) (cw_RL_119 hts ⟨Nat.le_of_ble_eq_true rfl, Nat.le_of_ble_eq_true rfl⟩) rfl rfl (va_recv hK hPm (ci := 10) (q0 := 0) rfl rfl) hK hZ hA hP hD hS rfl hl.1 rfl (Nat.le_of_ble_eq_true rfl) dL_law_1015 ⟨show cells + 10 ≤ 600000 by omega, show slots + 122 ≤ 7302250 by omega⟩ (fun r2 u2 H locs h hP hD hS => ?_)
      refine lv_icmp_eq (tgt := 1069) hx hb dL_law_1018 (by decide) (fun c1 => ?_) (fun c1 => ?_)
      · exact next st u2 f (some (b1, u1)) i1 H locs (by rw [h1.2]; exact h.2) hf hP hD hS
      · exact absurd (h1.1.trans h.1.symm) c1
  · by_cases n1 : a1 = 1
    · subst n1
      cases i1 with
      | none =>
        have hf1 : f 1 = none := hf.2
        refine callTN (r := wM cy bd mt) (w := wY cy ad st f i0 (none)) (rest := []) SF (c_X10_image_1n l D cy tz ad st f i0 hf1) (cw_RL_116 hts ⟨Nat.le_of_ble_eq_true rfl, Nat.le_of_ble_eq_true rfl⟩) (va_recv hK hPx (ci := 9) (q0 := 0) rfl rfl) hK hZ hXX hA hP hD hS rfl hl.1 rfl (Nat.le_of_ble_eq_true rfl) dL_law_1006 ⟨show cells + 10 ≤ 600000 by omega, show slots + 122 ≤ 7302250 by omega⟩ (fun r1 u1 H locs h1 hP hD hS => ?_)
        have pm2 := (pmY cy ad bd st mt u1.2 i0 (some (u1.1, cpS si0 st))).symm
        have hP := pm_P pm2 hP
        have hD := pm_D pm2 hD
        have h := hq1 st mt _ _ hLR
        refine lv_aload_n hx hb dL_law_1009 rfl (lv_at hl 2 rfl) ?_
        refine lv_aload_n hx hb dL_law_1010 rfl (lv_at hl 0 rfl) ?_
        refine lv_iload_n hx hb dL_law_1011 rfl (lv_at hl 3 rfl) ?_
        refine lv_iconst (v := 1) hx hb dL_law_1012 (by decide) ?_
        refine lv_iadd hx hb dL_law_1013 ?_
        refine va_sld hx hb hX hbl hbA hS hi1 dL_law_1014 ?_
        rw [ha1]
        obtain ⟨hPm, hDm⟩ := part_r (r := wR cy ad u1.2 i0 (some (u1.1, cpS si0 st)) ++ wX cy ad st) hP hD
        refine callTI (r := wR cy ad u1.2 i0 (some (u1.1, cpS si0 st)) ++ wX cy ad st) (w := wM cy bd mt) (rest := [.int r1]) SF (c_X11_image l D cy tz bd mt _ _ h) (cw_RL_119 hts ⟨Nat.le_of_ble_eq_true rfl, Nat.le_of_ble_eq_true rfl⟩) rfl rfl (va_recv hK hPm (ci := 10) (q0 := 0) rfl rfl) hK hZ hA hP hD hS rfl hl.1 rfl (Nat.le_of_ble_eq_true rfl) dL_law_1015 ⟨show cells + 10 ≤ 600000 by omega, show slots + 122 ≤ 7302250 by omega⟩ (fun r2 u2 H locs h hP hD hS => ?_)
        refine lv_icmp_eq (tgt := 1069) hx hb dL_law_1018 (by decide) (fun c1 => ?_) (fun c1 => ?_)
        · exact next st u2 u1.2 i0 (some (u1.1, cpS si0 st)) H locs (h.2) ⟨by rw [h1.2]; exact hf.1, by rw [h1.2]; rfl⟩ hP hD hS
        · exact absurd (h1.1.trans h.1.symm) c1
      | some q =>
        obtain ⟨b1, s1⟩ := q
        have hf1 : f 1 = some (b1 3) := hf.2
        refine callTN (r := wM cy bd mt) (w := wY cy ad st f i0 (some (b1, s1))) (rest := []) SF (c_X10_image_1 l D cy tz ad st f b1 s1 i0 hf1) (cw_RL_116 hts ⟨Nat.le_of_ble_eq_true rfl, Nat.le_of_ble_eq_true rfl⟩) (va_recv hK hPx (ci := 9) (q0 := 0) rfl rfl) hK hZ hXX hA hP hD hS rfl hl.1 rfl (Nat.le_of_ble_eq_true rfl) dL_law_1006 ⟨show cells + 10 ≤ 600000 by omega, show slots + 122 ≤ 7302250 by omega⟩ (fun r1 u1 H locs h1 hP hD hS => ?_)
        have pm2 := (pmY cy ad bd st mt f i0 (some (b1, u1))).symm
        have hP := pm_P pm2 hP
        have hD := pm_D pm2 hD
        have h := hq1 st mt _ _ hLR
        refine lv_aload_n hx hb dL_law_1009 rfl (lv_at hl 2 rfl) ?_
        refine lv_aload_n hx hb dL_law_1010 rfl (lv_at hl 0 rfl) ?_
        refine lv_iload_n hx hb dL_law_1011 rfl (lv_at hl 3 rfl) ?_
        refine lv_iconst (v := 1) hx hb dL_law_1012 (by decide) ?_
        refine lv_iadd hx hb dL_law_1013 ?_
        refine va_sld hx hb hX hbl hbA hS hi1 dL_law_1014 ?_
        rw [ha1]
        obtain ⟨hPm, hDm⟩ := part_r (r := wR cy ad f i0 (some (b1, u1)) ++ wX cy ad st) hP hD
        refine callTI (r := wR cy ad f i0 (some (b1, u1)) ++ wX cy ad st) (w := wM cy bd mt) (rest := [.int r1]) SF (c_X11_image l D cy tz bd mt _ _ h) (cw_RL_119 hts ⟨Nat.le_of_ble_eq_true rfl, Nat.le_of_ble_eq_true rfl⟩) rfl rfl (va_recv hK hPm (ci := 10) (q0 := 0) rfl rfl) hK hZ hA hP hD hS rfl hl.1 rfl (Nat.le_of_ble_eq_true rfl) dL_law_1015 ⟨show cells + 10 ≤ 600000 by omega, show slots + 122 ≤ 7302250 by omega⟩ (fun r2 u2 H locs h hP hD hS => ?_)
        refine lv_icmp_eq (tgt := 1069) hx hb dL_law_1018 (by decide) (fun c1 => ?_) (fun c1 => ?_)
        · exact next st u2 f i0 (some (b1, u1)) H locs (by rw [h1.2]; exact h.2) hf hP hD hS
        · exact absurd (h1.1.trans h.1.symm) c1
    · skip
      refine callTN (r := wM cy bd mt) (w := wY cy ad st f i0 i1) (rest := []) SF (c_X10_image_x l D cy tz ad st f i0 i1 a1 n0 n1) (cw_RL_116 hts ⟨Nat.le_of_ble_eq_true rfl, Nat.le_of_ble_eq_true rfl⟩) (va_recv hK hPx (ci := 9) (q0 := 0) rfl rfl) hK hZ hXX hA hP hD hS rfl hl.1 rfl (Nat.le_of_ble_eq_true rfl) dL_law_1006 ⟨show cells + 10 ≤ 600000 by omega, show slots + 122 ≤ 7302250 by omega⟩ (fun r1 u1 H locs h1 hP hD hS => ?_)
      have pm2 := (pmY cy ad bd st mt f i0 i1).symm
      have hP := pm_P pm2 hP
      have hD := pm_D pm2 hD
      have h := hx2 st mt _ _ a1 n0 n1 hLR
      refine lv_aload_n hx hb dL_law_1009 rfl (lv_at hl 2 rfl) ?_
      refine lv_aload_n hx hb dL_law_1010 rfl (lv_at hl 0 rfl) ?_
      refine lv_iload_n hx hb dL_law_1011 rfl (lv_at hl 3 rfl) ?_
      refine lv_iconst (v := 1) hx hb dL_law_1012 (by decide) ?_
      refine lv_iadd hx hb dL_law_1013 ?_
      refine va_sld hx hb hX hbl hbA hS hi1 dL_law_1014 ?_
      rw [ha1]
      obtain ⟨hPm, hDm⟩ := part_r (r := wR cy ad f i0 i1 ++ wX cy ad st) hP hD
      refine callTI (r := wR cy ad f i0 i1 ++ wX cy ad st) (w := wM cy bd mt) (rest := [.int r1]) SF (c_X11_image l D cy tz bd mt _ _ h) (cw_RL_119 hts ⟨Nat.le_of_ble_eq_true rfl, Nat.le_of_ble_eq_true rfl⟩) rfl rfl (va_recv hK hPm (ci := 10) (q0 := 0) rfl rfl) hK hZ hA hP hD hS rfl hl.1 rfl (Nat.le_of_ble_eq_true rfl) dL_law_1015 ⟨show cells + 10 ≤ 600000 by omega, show slots + 122 ≤ 7302250 by omega⟩ (fun r2 u2 H locs h hP hD hS => ?_)
      refine lv_icmp_eq (tgt := 1069) hx hb dL_law_1018 (by decide) (fun c1 => ?_) (fun c1 => ?_)
      · exact next st u2 f i0 i1 H locs (h.2) hf hP hD hS
      · exact absurd (h1.trans h.1.symm) c1
set_option maxHeartbeats 4000000 in
set_option maxRecDepth 100000 in
theorem lo_restore {p : Program} {l : Launch} {e : Env} {s : State} {m : MethodId} {below : List Frame} {meth : Method} {c : Code} {D : va_G} {cy : Nat → ClassId} {tz : Nat → Nat} {b L : Nat} {xs : Nat → Int32} {LR : St → Option St → Option St → St → Prop} {ad bd : Nat → Nat} {st mt : St} {f : Nat → Option Nat} {i0 i1 : Im} {x3 : Int32} {j : Nat} {H : Heap} {locs : List Loc} {ls : Array Slot} {cells slots : Nat} {Q : State → Prop} (hL : L ≤ 3584) (hC : Lc p s m meth c D cy tz b L xs) (h0s : ∀ (st mt sv : St) (j1 : Option St), LR st (some sv) j1 mt → wp_X11_restore mt 0 (fun r mt' => r = 1 ∧ LR (rsX sv st) (some sv) j1 mt')) (h0n : ∀ (st mt : St) (j1 : Option St), LR st none j1 mt → wp_X11_restore mt 0 (fun r mt' => r = (-3) ∧ LR st none j1 mt')) (h1s : ∀ (st mt sv : St) (j0 : Option St), LR st j0 (some sv) mt → wp_X11_restore mt 1 (fun r mt' => r = 1 ∧ LR (rsX sv st) j0 (some sv) mt')) (h1n : ∀ (st mt : St) (j0 : Option St), LR st j0 none mt → wp_X11_restore mt 1 (fun r mt' => r = (-3) ∧ LR st j0 none mt')) (hx2 : ∀ (st mt : St) (j0 j1 : Option St) (n : Int32), n ≠ 0 → n ≠ 1 → LR st j0 j1 mt → wp_X11_restore mt n (fun r mt' => r = (-2) ∧ LR st j0 j1 mt')) (hx3 : x3 = nI (7 * j)) (hj : 7 * j + 7 ≤ L) (hcl : cells + 10 ≤ 600000) (hsl : slots + 122 ≤ 7302250) (hLR : LR st (jm i0) (jm i1) mt) (hf : fOk f i0 i1) (hP : va_P D vwCl (wA cy ad bd st mt f i0 i1) H) (hD : va_D (lwA s) (wA cy ad bd st mt f i0 i1)) (hS : va_S (lwA s) s.heap H locs) (hl : lv_has ls 4 [(0, .ref b), (1, .ref (ad 0)), (2, .ref (bd 0)), (3, .int x3)]) (next : ∀ (st2 mt2 : St) (f2 : Nat → Option Nat) (k0 k1 : Im) (H : Heap) (locs : List Loc), LR st2 (jm k0) (jm k1) mt2 → fOk f2 k0 k1 → va_P D vwCl (wA cy ad bd st2 mt2 f2 k0 k1) H → va_D (lwA s) (wA cy ad bd st2 mt2 f2 k0 k1) → va_S (lwA s) s.heap H locs → W p l e room_1 s m #[Value.ref b] below meth c H locs (cells + 10) (slots + 122) Q (F0 m 1069 ls [])) : W p l e room_1 s m #[Value.ref b] below meth c H locs cells slots Q (F0 m 1023 ls []) := by
  obtain ⟨hx, hb, hr, hml, hown, hts, hX, hbl, hlocks, hK, hZ, hXX⟩ := hC
  have hA : ∀ q : Nat, s.heap.size ≤ q → lwA s q := fun _ h => h
  have hbA : ¬ lwA s b := Nat.not_le.mpr hbl
  have SF : CallFix p m c code 4 s #[Value.ref b] wsL_law RL := ⟨hx, hb, hml, hown, hts⟩
  have hi1 : vp_in (x3 + 1) L := lw_in hL hx3 hj (k := 1) (by decide)
  have hcl0 : cells ≤ room_1.cells ∧ slots ≤ room_1.slots := ⟨show cells ≤ 600000 by omega, show slots ≤ 7302250 by omega⟩
  refine lv_aload_n hx hb dL_law_1023 rfl (lv_at hl 1 rfl) ?_
  refine lv_aload_n hx hb dL_law_1024 rfl (lv_at hl 0 rfl) ?_
  refine lv_iload_n hx hb dL_law_1025 rfl (lv_at hl 3 rfl) ?_
  refine lv_iconst (v := 1) hx hb dL_law_1026 (by decide) ?_
  refine lv_iadd hx hb dL_law_1027 ?_
  refine va_sld hx hb hX hbl hbA hS hi1 dL_law_1028 ?_
  have pm := pmY cy ad bd st mt f i0 i1
  have hP := pm_P pm hP
  have hD := pm_D pm hD
  obtain ⟨hPx, hDx⟩ := part_r (r := wM cy bd mt) hP hD
  generalize ha1 : xs (x3 + 1).toNatClampNeg = a1
  by_cases n0 : a1 = 0
  · subst n0
    cases i0 with
    | none =>
      have hf0 : f 0 = none := hf.1
      refine callTI (r := wM cy bd mt) (w := wY cy ad st f (none) i1) (rest := []) SF (c_X10_restore_0n l D cy tz ad st f i1 hf0) (cw_RL_120 hts ⟨Nat.le_of_ble_eq_true rfl, Nat.le_of_ble_eq_true rfl⟩) rfl rfl (va_recv hK hPx (ci := 9) (q0 := 0) rfl rfl) hK hZ hA hP hD hS rfl hl.1 rfl (Nat.le_of_ble_eq_true rfl) dL_law_1029 hcl0 (fun r1 u1 H locs h1 hP hD hS => ?_)
      have pm2 := (pmY cy ad bd st mt f (none) i1).symm
      have hP := pm_P pm2 hP
      have hD := pm_D pm2 hD
      have h := h0n st mt _ hLR
      refine lv_aload_n hx hb dL_law_1032 rfl (lv_at hl 2 rfl) ?_
      refine lv_aload_n hx hb dL_law_1033 rfl (lv_at hl 0 rfl) ?_
      refine lv_iload_n hx hb dL_law_1034 rfl (lv_at hl 3 rfl) ?_
      refine lv_iconst (v := 1) hx hb dL_law_1035 (by decide) ?_
      refine lv_iadd hx hb dL_law_1036 ?_
      refine va_sld hx hb hX hbl hbA hS hi1 dL_law_1037 ?_
      rw [ha1]
      obtain ⟨hPm, hDm⟩ := part_r (r := wR cy ad f (none) i1 ++ wX cy ad st) hP hD
      refine callTI (r := wR cy ad f (none) i1 ++ wX cy ad st) (w := wM cy bd mt) (rest := [.int r1]) SF (c_X11_restore l D cy tz bd mt _ _ h) (cw_RL_123 hts ⟨Nat.le_of_ble_eq_true rfl, Nat.le_of_ble_eq_true rfl⟩) rfl rfl (va_recv hK hPm (ci := 10) (q0 := 0) rfl rfl) hK hZ hA hP hD hS rfl hl.1 rfl (Nat.le_of_ble_eq_true rfl) dL_law_1038 hcl0 (fun r2 u2 H locs h hP hD hS => ?_)
      refine lv_icmp_eq (tgt := 1069) hx hb dL_law_1041 (by decide) (fun c1 => ?_) (fun c1 => ?_)
      · refine W.widen (k := cells + 10) (n := slots + 122) (by omega) (by omega) ?_
        exact next st u2 f (none) i1 H locs (h.2) hf hP hD hS
      · exact absurd (h1.trans h.1.symm) c1
    | some q =>
      obtain ⟨b1, s1⟩ := q
      have hf0 : f 0 = some (b1 3) := hf.1
      refine callTI (r := wM cy bd mt) (w := wY cy ad st f (some (b1, s1)) i1) (rest := []) SF (c_X10_restore_0 l D cy tz ad st f b1 s1 i1 hf0) (cw_RL_120 hts ⟨Nat.le_of_ble_eq_true rfl, Nat.le_of_ble_eq_true rfl⟩) rfl rfl (va_recv hK hPx (ci := 9) (q0 := 0) rfl rfl) hK hZ hA hP hD hS rfl hl.1 rfl (Nat.le_of_ble_eq_true rfl) dL_law_1029 hcl0 (fun r1 u1 H locs h1 hP hD hS => ?_)
      have pm2 := (pmY cy ad bd u1 mt f (some (b1, s1)) i1).symm
      have hP := pm_P pm2 hP
      have hD := pm_D pm2 hD
      have h := h0s st mt s1 _ hLR
      refine lv_aload_n hx hb dL_law_1032 rfl (lv_at hl 2 rfl) ?_
      refine lv_aload_n hx hb dL_law_1033 rfl (lv_at hl 0 rfl) ?_
      refine lv_iload_n hx hb dL_law_1034 rfl (lv_at hl 3 rfl) ?_
      refine lv_iconst (v := 1) hx hb dL_law_1035 (by decide) ?_
      refine lv_iadd hx hb dL_law_1036 ?_
      refine va_sld hx hb hX hbl hbA hS hi1 dL_law_1037 ?_
      rw [ha1]
      obtain ⟨hPm, hDm⟩ := part_r (r := wR cy ad f (some (b1, s1)) i1 ++ wX cy ad u1) hP hD
      refine callTI (r := wR cy ad f (some (b1, s1)) i1 ++ wX cy ad u1) (w := wM cy bd mt) (rest := [.int r1]) SF (c_X11_restore l D cy tz bd mt _ _ h) (cw_RL_123 hts ⟨Nat.le_of_ble_eq_true rfl, Nat.le_of_ble_eq_true rfl⟩) rfl rfl (va_recv hK hPm (ci := 10) (q0 := 0) rfl rfl) hK hZ hA hP hD hS rfl hl.1 rfl (Nat.le_of_ble_eq_true rfl) dL_law_1038 hcl0 (fun r2 u2 H locs h hP hD hS => ?_)
      refine lv_icmp_eq (tgt := 1069) hx hb dL_law_1041 (by decide) (fun c1 => ?_) (fun c1 => ?_)
      · refine W.widen (k := cells + 10) (n := slots + 122) (by omega) (by omega) ?_
        exact next u1 u2 f (some (b1, s1)) i1 H locs (by rw [show u1 = rsX s1 st from h1.2]; exact h.2) hf hP hD hS
      · exact absurd (h1.1.trans h.1.symm) c1
  · by_cases n1 : a1 = 1
    · subst n1
      cases i1 with
      | none =>
        have hf1 : f 1 = none := hf.2
        refine callTI (r := wM cy bd mt) (w := wY cy ad st f i0 (none)) (rest := []) SF (c_X10_restore_1n l D cy tz ad st f i0 hf1) (cw_RL_120 hts ⟨Nat.le_of_ble_eq_true rfl, Nat.le_of_ble_eq_true rfl⟩) rfl rfl (va_recv hK hPx (ci := 9) (q0 := 0) rfl rfl) hK hZ hA hP hD hS rfl hl.1 rfl (Nat.le_of_ble_eq_true rfl) dL_law_1029 hcl0 (fun r1 u1 H locs h1 hP hD hS => ?_)
        have pm2 := (pmY cy ad bd st mt f i0 (none)).symm
        have hP := pm_P pm2 hP
        have hD := pm_D pm2 hD
        have h := h1n st mt _ hLR
        refine lv_aload_n hx hb dL_law_1032 rfl (lv_at hl 2 rfl) ?_
        refine lv_aload_n hx hb dL_law_1033 rfl (lv_at hl 0 rfl) ?_
        refine lv_iload_n hx hb dL_law_1034 rfl (lv_at hl 3 rfl) ?_
        refine lv_iconst (v := 1) hx hb dL_law_1035 (by decide) ?_
        refine lv_iadd hx hb dL_law_1036 ?_
        refine va_sld hx hb hX hbl hbA hS hi1 dL_law_1037 ?_
        rw [ha1]
        obtain ⟨hPm, hDm⟩ := part_r (r := wR cy ad f i0 (none) ++ wX cy ad st) hP hD
        refine callTI (r := wR cy ad f i0 (none) ++ wX cy ad st) (w := wM cy bd mt) (rest := [.int r1]) SF (c_X11_restore l D cy tz bd mt _ _ h) (cw_RL_123 hts ⟨Nat.le_of_ble_eq_true rfl, Nat.le_of_ble_eq_true rfl⟩) rfl rfl (va_recv hK hPm (ci := 10) (q0 := 0) rfl rfl) hK hZ hA hP hD hS rfl hl.1 rfl (Nat.le_of_ble_eq_true rfl) dL_law_1038 hcl0 (fun r2 u2 H locs h hP hD hS => ?_)
        refine lv_icmp_eq (tgt := 1069) hx hb dL_law_1041 (by decide) (fun c1 => ?_) (fun c1 => ?_)
        · refine W.widen (k := cells + 10) (n := slots + 122) (by omega) (by omega) ?_
          exact next st u2 f i0 (none) H locs (h.2) hf hP hD hS
        · exact absurd (h1.trans h.1.symm) c1
      | some q =>
        obtain ⟨b1, s1⟩ := q
        have hf1 : f 1 = some (b1 3) := hf.2
        refine callTI (r := wM cy bd mt) (w := wY cy ad st f i0 (some (b1, s1))) (rest := []) SF (c_X10_restore_1 l D cy tz ad st f b1 s1 i0 hf1) (cw_RL_120 hts ⟨Nat.le_of_ble_eq_true rfl, Nat.le_of_ble_eq_true rfl⟩) rfl rfl (va_recv hK hPx (ci := 9) (q0 := 0) rfl rfl) hK hZ hA hP hD hS rfl hl.1 rfl (Nat.le_of_ble_eq_true rfl) dL_law_1029 hcl0 (fun r1 u1 H locs h1 hP hD hS => ?_)
        have pm2 := (pmY cy ad bd u1 mt f i0 (some (b1, s1))).symm
        have hP := pm_P pm2 hP
        have hD := pm_D pm2 hD
        have h := h1s st mt s1 _ hLR
        refine lv_aload_n hx hb dL_law_1032 rfl (lv_at hl 2 rfl) ?_
        refine lv_aload_n hx hb dL_law_1033 rfl (lv_at hl 0 rfl) ?_
        refine lv_iload_n hx hb dL_law_1034 rfl (lv_at hl 3 rfl) ?_
        refine lv_iconst (v := 1) hx hb dL_law_1035 (by decide) ?_
        refine lv_iadd hx hb dL_law_1036 ?_
        refine va_sld hx hb hX hbl hbA hS hi1 dL_law_1037 ?_
        rw [ha1]
        obtain ⟨hPm, hDm⟩ := part_r (r := wR cy ad f i0 (some (b1, s1)) ++ wX cy ad u1) hP hD
        refine callTI (r := wR cy ad f i0 (some (b1, s1)) ++ wX cy ad u1) (w := wM cy bd mt) (rest := [.int r1]) SF (c_X11_restore l D cy tz bd mt _ _ h) (cw_RL_123 hts ⟨Nat.le_of_ble_eq_true rfl, Nat.le_of_ble_eq_true rfl⟩) rfl rfl (va_recv hK hPm (ci := 10) (q0 := 0) rfl rfl) hK hZ hA hP hD hS rfl hl.1 rfl (Nat.le_of_ble_eq_true rfl) dL_law_1038 hcl0 (fun r2 u2 H locs h hP hD hS => ?_)
        refine lv_icmp_eq (tgt := 1069) hx hb dL_law_1041 (by decide) (fun c1 => ?_) (fun c1 => ?_)
        · refine W.widen (k := cells + 10) (n := slots + 122) (by omega) (by omega) ?_
          exact next u1 u2 f i0 (some (b1, s1)) H locs (by rw [show u1 = rsX s1 st from h1.2]; exact h.2) hf hP hD hS
        · exact absurd (h1.1.trans h.1.symm) c1
    · skip
      refine callTI (r := wM cy bd mt) (w := wY cy ad st f i0 i1) (rest := []) SF (c_X10_restore_x l D cy tz ad st f i0 i1 a1 n0 n1) (cw_RL_120 hts ⟨Nat.le_of_ble_eq_true rfl, Nat.le_of_ble_eq_true rfl⟩) rfl rfl (va_recv hK hPx (ci := 9) (q0 := 0) rfl rfl) hK hZ hA hP hD hS rfl hl.1 rfl (Nat.le_of_ble_eq_true rfl) dL_law_1029 hcl0 (fun r1 u1 H locs h1 hP hD hS => ?_)
      have pm2 := (pmY cy ad bd st mt f i0 i1).symm
      have hP := pm_P pm2 hP
      have hD := pm_D pm2 hD
      have h := hx2 st mt _ _ a1 n0 n1 hLR
      refine lv_aload_n hx hb dL_law_1032 rfl (lv_at hl 2 rfl) ?_
      refine lv_aload_n hx hb dL_law_1033 rfl (lv_at hl 0 rfl) ?_
      refine lv_iload_n hx hb dL_law_1034 rfl (lv_at hl 3 rfl) ?_
      refine lv_iconst (v := 1) hx hb dL_law_1035 (by decide) ?_
      refine lv_iadd hx hb dL_law_1036 ?_
      refine va_sld hx hb hX hbl hbA hS hi1 dL_law_1037 ?_
      rw [ha1]
      obtain ⟨hPm, hDm⟩ := part_r (r := wR cy ad f i0 i1 ++ wX cy ad st) hP hD
      refine callTI (r := wR cy ad f i0 i1 ++ wX cy ad st) (w := wM cy bd mt) (rest := [.int r1]) SF (c_X11_restore l D cy tz bd mt _ _ h) (cw_RL_123 hts ⟨Nat.le_of_ble_eq_true rfl, Nat.le_of_ble_eq_true rfl⟩) rfl rfl (va_recv hK hPm (ci := 10) (q0 := 0) rfl rfl) hK hZ hA hP hD hS rfl hl.1 rfl (Nat.le_of_ble_eq_true rfl) dL_law_1038 hcl0 (fun r2 u2 H locs h hP hD hS => ?_)
      refine lv_icmp_eq (tgt := 1069) hx hb dL_law_1041 (by decide) (fun c1 => ?_) (fun c1 => ?_)
      · refine W.widen (k := cells + 10) (n := slots + 122) (by omega) (by omega) ?_
        exact next st u2 f i0 i1 H locs (h.2) hf hP hD hS
      · exact absurd (h1.trans h.1.symm) c1
set_option maxHeartbeats 4000000 in
set_option maxRecDepth 100000 in
theorem lo_told {p : Program} {l : Launch} {e : Env} {s : State} {m : MethodId} {below : List Frame} {meth : Method} {c : Code} {D : va_G} {cy : Nat → ClassId} {tz : Nat → Nat} {b L : Nat} {xs : Nat → Int32} {LR : St → Option St → Option St → St → Prop} {ad bd : Nat → Nat} {st mt : St} {f : Nat → Option Nat} {i0 i1 : Im} {x3 : Int32} {j : Nat} {H : Heap} {locs : List Loc} {ls : Array Slot} {cells slots : Nat} {Q : State → Prop} (hL : L ≤ 3584) (hC : Lc p s m meth c D cy tz b L xs) (hop : ∀ (st mt : St) (j0 j1 : Option St) (a1 : Int32), LR st j0 j1 mt → wp_X10_told st a1 (fun r => wp_X11_told mt a1 (fun r' => r = r' ∧ LR st j0 j1 mt))) (hx3 : x3 = nI (7 * j)) (hj : 7 * j + 7 ≤ L) (hcl : cells + 10 ≤ 600000) (hsl : slots + 122 ≤ 7302250) (hLR : LR st (jm i0) (jm i1) mt) (hf : fOk f i0 i1) (hP : va_P D vwCl (wA cy ad bd st mt f i0 i1) H) (hD : va_D (lwA s) (wA cy ad bd st mt f i0 i1)) (hS : va_S (lwA s) s.heap H locs) (hl : lv_has ls 4 [(0, .ref b), (1, .ref (ad 0)), (2, .ref (bd 0)), (3, .int x3)]) (next : ∀ (st2 mt2 : St) (f2 : Nat → Option Nat) (k0 k1 : Im) (H : Heap) (locs : List Loc), LR st2 (jm k0) (jm k1) mt2 → fOk f2 k0 k1 → va_P D vwCl (wA cy ad bd st2 mt2 f2 k0 k1) H → va_D (lwA s) (wA cy ad bd st2 mt2 f2 k0 k1) → va_S (lwA s) s.heap H locs → W p l e room_1 s m #[Value.ref b] below meth c H locs (cells + 10) (slots + 122) Q (F0 m 1069 ls [])) : W p l e room_1 s m #[Value.ref b] below meth c H locs cells slots Q (F0 m 1046 ls []) := by
  obtain ⟨hx, hb, hr, hml, hown, hts, hX, hbl, hlocks, hK, hZ, hXX⟩ := hC
  have hA : ∀ q : Nat, s.heap.size ≤ q → lwA s q := fun _ h => h
  have hbA : ¬ lwA s b := Nat.not_le.mpr hbl
  have SF : CallFix p m c code 4 s #[Value.ref b] wsL_law RL := ⟨hx, hb, hml, hown, hts⟩
  have hi1 : vp_in (x3 + 1) L := lw_in hL hx3 hj (k := 1) (by decide)
  have hcl0 : cells ≤ room_1.cells ∧ slots ≤ room_1.slots := ⟨show cells ≤ 600000 by omega, show slots ≤ 7302250 by omega⟩
  refine lv_aload_n hx hb dL_law_1046 rfl (lv_at hl 1 rfl) ?_
  refine lv_aload_n hx hb dL_law_1047 rfl (lv_at hl 0 rfl) ?_
  refine lv_iload_n hx hb dL_law_1048 rfl (lv_at hl 3 rfl) ?_
  refine lv_iconst (v := 1) hx hb dL_law_1049 (by decide) ?_
  refine lv_iadd hx hb dL_law_1050 ?_
  refine va_sld hx hb hX hbl hbA hS hi1 dL_law_1051 ?_
  have hP : va_P D vwCl (wB cy ad bd st mt f i0 i1) H := va_P.swap hP
  have hD : va_D (lwA s) (wB cy ad bd st mt f i0 i1) := va_D.swap hD
  obtain ⟨hPx, hDx⟩ := part_r (r := wR cy ad f i0 i1 ++ wM cy bd mt) hP hD
  refine callTI (r := wR cy ad f i0 i1 ++ wM cy bd mt) (w := wX cy ad st) (rest := []) SF (c_X10_told l D cy tz ad st (xs (x3 + 1).toNatClampNeg) _ (hop st mt (jm i0) (jm i1) (xs (x3 + 1).toNatClampNeg) hLR)) (cw_RL_124 hts ⟨Nat.le_of_ble_eq_true rfl, Nat.le_of_ble_eq_true rfl⟩) rfl rfl (va_recv hK hPx (ci := 9) (q0 := 0) rfl rfl) hK hZ hA hP hD hS rfl hl.1 rfl (Nat.le_of_ble_eq_true rfl) dL_law_1052 hcl0 (fun r1 u1 H locs h hP hD hS => ?_)
  have hP : va_P D vwCl (wA cy ad bd st mt f i0 i1) H := va_P.swap hP
  have hD : va_D (lwA s) (wA cy ad bd st mt f i0 i1) := va_D.swap hD
  refine lv_aload_n hx hb dL_law_1055 rfl (lv_at hl 2 rfl) ?_
  refine lv_aload_n hx hb dL_law_1056 rfl (lv_at hl 0 rfl) ?_
  refine lv_iload_n hx hb dL_law_1057 rfl (lv_at hl 3 rfl) ?_
  refine lv_iconst (v := 1) hx hb dL_law_1058 (by decide) ?_
  refine lv_iadd hx hb dL_law_1059 ?_
  refine va_sld hx hb hX hbl hbA hS hi1 dL_law_1060 ?_
  obtain ⟨hPm, hDm⟩ := part_r (r := wR cy ad f i0 i1 ++ wX cy ad st) hP hD
  refine callTI (r := wR cy ad f i0 i1 ++ wX cy ad st) (w := wM cy bd mt) (rest := [.int r1]) SF (c_X11_told l D cy tz bd mt (xs (x3 + 1).toNatClampNeg) _ h) (cw_RL_127 hts ⟨Nat.le_of_ble_eq_true rfl, Nat.le_of_ble_eq_true rfl⟩) rfl rfl (va_recv hK hPm (ci := 10) (q0 := 0) rfl rfl) hK hZ hA hP hD hS rfl hl.1 rfl (Nat.le_of_ble_eq_true rfl) dL_law_1061 hcl0 (fun r2 u2 H locs h hP hD hS => ?_)
  refine lv_icmp_eq (tgt := 1069) hx hb dL_law_1064 (by decide) (fun c1 => ?_) (fun c1 => ?_)
  · refine W.widen (k := cells + 10) (n := slots + 122) (by omega) (by omega) ?_
    exact next st mt f i0 i1 H locs h.2 hf hP hD hS
  · exact absurd h.1 c1
