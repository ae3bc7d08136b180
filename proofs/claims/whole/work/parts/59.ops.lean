/-! all calls -/
theorem ops_all : Ops LR := ⟨o_set, o_say, o_wipe, o_fault, o_push, o_turn, o_sit, o_point, o_ball, o_caught, o_all, o_loops, o_rolled, o_off, o_leans, o_stays, o_hut, o_film, o_clear, o_bent, o_turned, o_span, o_learns, o_along, o_image0, o_image1, o_imageN, o_rest0, o_rest0n, o_rest1, o_rest1n, o_restN, o_told⟩
