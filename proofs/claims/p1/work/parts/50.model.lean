set_option maxHeartbeats 4000000 in
set_option maxRecDepth 20000 in
theorem Model_init_e {n : Nat} {sc : Option ax_Ob} (pre : List ax_Ob) (hp : pre.length = 23) : ax_F (n + 1) 143 [ax_A (some 24)] (ax_ls 1774 (pre ++ .inl (9, [ax_I 0, ax_I 0, ax_A none, ax_I 0, ax_A none, ax_I 0, ax_A none, ax_I 0, ax_A none, ax_I 0, ax_A none, ax_A none, ax_A none, ax_A none, ax_A none, ax_A none, ax_A none, ax_A none, ax_A none, ax_A none, ax_A none, ax_A none, ax_A none, ax_A none, ax_A none, ax_A none, ax_I 0, ax_A none, ax_A none, ax_I 0, ax_I 0, ax_I 0, ax_A none, ax_A none, ax_A none, ax_A none, ax_A none, ax_L 0, ax_I 0, ax_I 0, ax_I 0, ax_A none, ax_A none, ax_A none, ax_A none, ax_A none, ax_A none, ax_A none, ax_I 0, ax_I 0]) :: []) sc) = some (.inl none, ax_ls 9730 (pre ++ .inl (9, [ax_I 0, ax_I 0, ax_A (some 25), ax_I 0, ax_A (some 26), ax_I 0, ax_A (some 27), ax_I 0, ax_A (some 28), ax_I (-1), ax_A (some 29), ax_A (some 30), ax_A (some 31), ax_A (some 32), ax_A (some 33), ax_A (some 34), ax_A (some 35), ax_A (some 36), ax_A (some 37), ax_A (some 38), ax_A (some 39), ax_A (some 40), ax_A (some 41), ax_A (some 42), ax_A (some 43), ax_A (some 44), ax_I 0, ax_A (some 45), ax_A (some 46), ax_I 0, ax_I 0, ax_I 0, ax_A (some 47), ax_A (some 48), ax_A (some 49), ax_A (some 50), ax_A (some 51), ax_L 0, ax_I 0, ax_I 0, ax_I 0, ax_A (some 52), ax_A (some 53), ax_A (some 54), ax_A (some 55), ax_A (some 56), ax_A (some 57), ax_A (some 58), ax_I 0, ax_I 0]) :: [.inr (3, List.replicate 160 (ax_I 0)), .inr (1, List.replicate 64 (ax_I 0)), .inr (1, List.replicate 420 (ax_I 0)), .inr (1, List.replicate 420 (ax_I 0)), .inr (1, List.replicate 4 (ax_I 0)), .inr (1, List.replicate 4 (ax_I 0)), .inr (3, List.replicate 3840 (ax_I 0)), .inr (1, List.replicate 24 (ax_I 0)), .inr (3, List.replicate 320 (ax_I 0)), .inr (1, List.replicate 2 (ax_I 0)), .inr (1, List.replicate 2 (ax_I 0)), .inr (3, List.replicate 240 (ax_I 0)), .inr (1, List.replicate 240 (ax_I 0)), .inr (1, List.replicate 240 (ax_I 0)), .inr (1, List.replicate 240 (ax_I 0)), .inr (3, List.replicate 240 (ax_I 0)), .inr (1, List.replicate 240 (ax_I 0)), .inr (1, List.replicate 240 (ax_I 0)), .inr (1, List.replicate 240 (ax_I 0)), .inr (4, List.replicate 320 (ax_I 0)), .inr (1, List.replicate 8 (ax_I 0)), .inr (1, List.replicate 8 (ax_I 0)), .inr (1, List.replicate 10 (ax_I 0)), .inr (1, List.replicate 10 (ax_I 0)), .inr (1, List.replicate 10 (ax_I 0)), .inr (1, List.replicate 10 (ax_I 0)), .inr (1, List.replicate 10 (ax_I 0)), .inr (1, List.replicate 100 (ax_I 0)), .inr (2, List.replicate 240 (ax_L 0)), .inr (1, List.replicate 10 (ax_I 0)), .inr (1, List.replicate 10 (ax_I 0)), .inr (1, List.replicate 10 (ax_I 0)), .inr (1, List.replicate 10 (ax_I 0)), .inr (1, List.replicate 10 (ax_I 0))]) sc) := by
  rw [Model_init_F]
  unfold Model_init_b
  refine Eq.trans (ls_step (i := 23) (m := 0) 25 160 hp rfl (by decide) rfl (by decide) (by decide) (by decide) (by decide) (by decide)) ?_
  refine Eq.trans (ls_step (i := 23) (m := 1) 26 64 hp rfl (by decide) rfl (by decide) (by decide) (by decide) (by decide) (by decide)) ?_
  refine Eq.trans (ls_step (i := 23) (m := 2) 27 420 hp rfl (by decide) rfl (by decide) (by decide) (by decide) (by decide) (by decide)) ?_
  refine Eq.trans (ls_step (i := 23) (m := 3) 28 420 hp rfl (by decide) rfl (by decide) (by decide) (by decide) (by decide) (by decide)) ?_
  refine Eq.trans (ls_mpf (i := 23) hp (by decide)) ?_
  refine Eq.trans (ls_step (i := 23) (m := 4) 29 4 hp rfl (by decide) rfl (by decide) (by decide) (by decide) (by decide) (by decide)) ?_
  refine Eq.trans (ls_step (i := 23) (m := 5) 30 4 hp rfl (by decide) rfl (by decide) (by decide) (by decide) (by decide) (by decide)) ?_
  refine Eq.trans (ls_step (i := 23) (m := 6) 31 3840 hp rfl (by decide) rfl (by decide) (by decide) (by decide) (by decide) (by decide)) ?_
  refine Eq.trans (ls_step (i := 23) (m := 7) 32 24 hp rfl (by decide) rfl (by decide) (by decide) (by decide) (by decide) (by decide)) ?_
  refine Eq.trans (ls_step (i := 23) (m := 8) 33 320 hp rfl (by decide) rfl (by decide) (by decide) (by decide) (by decide) (by decide)) ?_
  refine Eq.trans (ls_step (i := 23) (m := 9) 34 2 hp rfl (by decide) rfl (by decide) (by decide) (by decide) (by decide) (by decide)) ?_
  refine Eq.trans (ls_step (i := 23) (m := 10) 35 2 hp rfl (by decide) rfl (by decide) (by decide) (by decide) (by decide) (by decide)) ?_
  refine Eq.trans (ls_step (i := 23) (m := 11) 36 240 hp rfl (by decide) rfl (by decide) (by decide) (by decide) (by decide) (by decide)) ?_
  refine Eq.trans (ls_step (i := 23) (m := 12) 37 240 hp rfl (by decide) rfl (by decide) (by decide) (by decide) (by decide) (by decide)) ?_
  refine Eq.trans (ls_step (i := 23) (m := 13) 38 240 hp rfl (by decide) rfl (by decide) (by decide) (by decide) (by decide) (by decide)) ?_
  refine Eq.trans (ls_step (i := 23) (m := 14) 39 240 hp rfl (by decide) rfl (by decide) (by decide) (by decide) (by decide) (by decide)) ?_
  refine Eq.trans (ls_step (i := 23) (m := 15) 40 240 hp rfl (by decide) rfl (by decide) (by decide) (by decide) (by decide) (by decide)) ?_
  refine Eq.trans (ls_step (i := 23) (m := 16) 41 240 hp rfl (by decide) rfl (by decide) (by decide) (by decide) (by decide) (by decide)) ?_
  refine Eq.trans (ls_step (i := 23) (m := 17) 42 240 hp rfl (by decide) rfl (by decide) (by decide) (by decide) (by decide) (by decide)) ?_
  refine Eq.trans (ls_step (i := 23) (m := 18) 43 240 hp rfl (by decide) rfl (by decide) (by decide) (by decide) (by decide) (by decide)) ?_
  refine Eq.trans (ls_step (i := 23) (m := 19) 44 320 hp rfl (by decide) rfl (by decide) (by decide) (by decide) (by decide) (by decide)) ?_
  refine Eq.trans (ls_step (i := 23) (m := 20) 45 8 hp rfl (by decide) rfl (by decide) (by decide) (by decide) (by decide) (by decide)) ?_
  refine Eq.trans (ls_step (i := 23) (m := 21) 46 8 hp rfl (by decide) rfl (by decide) (by decide) (by decide) (by decide) (by decide)) ?_
  refine Eq.trans (ls_step (i := 23) (m := 22) 47 10 hp rfl (by decide) rfl (by decide) (by decide) (by decide) (by decide) (by decide)) ?_
  refine Eq.trans (ls_step (i := 23) (m := 23) 48 10 hp rfl (by decide) rfl (by decide) (by decide) (by decide) (by decide) (by decide)) ?_
  refine Eq.trans (ls_step (i := 23) (m := 24) 49 10 hp rfl (by decide) rfl (by decide) (by decide) (by decide) (by decide) (by decide)) ?_
  refine Eq.trans (ls_step (i := 23) (m := 25) 50 10 hp rfl (by decide) rfl (by decide) (by decide) (by decide) (by decide) (by decide)) ?_
  refine Eq.trans (ls_step (i := 23) (m := 26) 51 10 hp rfl (by decide) rfl (by decide) (by decide) (by decide) (by decide) (by decide)) ?_
  refine Eq.trans (ls_step (i := 23) (m := 27) 52 100 hp rfl (by decide) rfl (by decide) (by decide) (by decide) (by decide) (by decide)) ?_
  refine Eq.trans (ls_step (i := 23) (m := 28) 53 240 hp rfl (by decide) rfl (by decide) (by decide) (by decide) (by decide) (by decide)) ?_
  refine Eq.trans (ls_step (i := 23) (m := 29) 54 10 hp rfl (by decide) rfl (by decide) (by decide) (by decide) (by decide) (by decide)) ?_
  refine Eq.trans (ls_step (i := 23) (m := 30) 55 10 hp rfl (by decide) rfl (by decide) (by decide) (by decide) (by decide) (by decide)) ?_
  refine Eq.trans (ls_step (i := 23) (m := 31) 56 10 hp rfl (by decide) rfl (by decide) (by decide) (by decide) (by decide) (by decide)) ?_
  refine Eq.trans (ls_step (i := 23) (m := 32) 57 10 hp rfl (by decide) rfl (by decide) (by decide) (by decide) (by decide) (by decide)) ?_
  refine Eq.trans (ls_step (i := 23) (m := 33) 58 10 hp rfl (by decide) rfl (by decide) (by decide) (by decide) (by decide) (by decide)) ?_
  rfl
