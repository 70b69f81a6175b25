theorem d_Law_mode_0 : decode method_3_code 0 = .ok (.aload_n 0, 1) := by decide +kernel
theorem d_Law_mode_1 : decode method_3_code 1 = .ok (.iload_n 1, 1) := by decide +kernel
theorem d_Law_mode_2 : decode method_3_code 2 = .ok (.iload_n 2, 1) := by decide +kernel
theorem d_Law_mode_3 : decode method_3_code 3 = .ok (.invokevirtual 7, 3) := by decide +kernel
theorem d_Law_mode_6 : decode method_3_code 6 = .ok (.goto 6, 3) := by decide +kernel
theorem d_Law_mode_9 : decode method_3_code 9 = .ok (.astore_n 3, 1) := by decide +kernel
theorem d_Law_mode_10 : decode method_3_code 10 = .ok (.iconst 1, 1) := by decide +kernel
theorem d_Law_mode_11 : decode method_3_code 11 = .ok (.ireturn, 1) := by decide +kernel
theorem d_Law_mode_12 : decode method_3_code 12 = .ok (.iconst 0, 1) := by decide +kernel
theorem d_Law_mode_13 : decode method_3_code 13 = .ok (.ireturn, 1) := by decide +kernel
def Law_mode_b (call : ax_Cf) (x0 : Option Nat) (x1 : Int32) (x2 : Int32) (h : ax_Hp) : ax_O :=
  ax_on h x0 8 <| ax_cx (call 15 [ax_A x0, ax_I x1, ax_I x2] h) (fun w3 h1 => ax_ov w3 <|
    ax_ri 0 h1)
    (fun k4 a5 h1 =>
      if k4 = 0 then
      ax_ri 1 h1
      else
      none)
set_option maxHeartbeats 4000000 in
set_option maxRecDepth 20000 in
theorem Law_mode_t {l : Launch} {G : ax_G} {d : Nat} {call : ax_Cf} (hcall : ax_Hc l G d call) (x0 : Option Nat) (x1 : Int32) (x2 : Int32) (h : ax_Hp) {r : ax_Rs} {h' : ax_Hp} (ho : Law_mode_b call x0 x1 x2 h = some (r, h')) : ax_C l G (d + 1) y_Law_mode (.codeWith y_Law_mode method_3_code 4 (some (.int)) [(0, 6, 9, 13)]) [ax_A x0, ax_I x1, ax_I x2] h r h' := by
  refine ax_enterW (by decide) (Nat.le_of_ble_eq_true rfl) ho (fun p e s mi args below meth c B HS => ?_)
  have B : ax_B G p s mi meth c "SchemaDeskLaw" method_3_code 4 (some (.int)) := B
  show ax_W G p l e s mi args below meth c 4 (d + 1) h 0 [(0, ax_A x0), (1, ax_I x1), (2, ax_I x2)] [] h (Law_mode_b call x0 x1 x2 h)
  unfold Law_mode_b
  refine ax_aload_n B 0 d_Law_mode_0 rfl rfl ?_
  refine ax_iload_n B 1 d_Law_mode_1 rfl rfl ?_
  refine ax_iload_n B 2 d_Law_mode_2 rfl rfl ?_
  refine ax_callVH (av := [ax_I x1, ax_I x2]) (rest := []) B hm_Desk_mode cl_Desk rfl wd_151 wd_152 lk_Law_7 d_Law_mode_3 rfl (Nat.le_of_ble_eq_true rfl) (fun _ _ hh => hcall 15 _ _ _ _ hh) (fun w3 h1 => ax_Wov ?_ w3) (fun k4 a5 h1 => ?_)
  · refine ax_goto B 12 d_Law_mode_6 (by decide) ?_
    refine ax_iconst (v := 0) B d_Law_mode_12 (by decide) ?_
    exact ax_ireturn B d_Law_mode_13
  by_cases e0 : k4 = 0
  · subst e0
    refine Or.inr ⟨9, ax_cat1 HS rfl (by decide) wd_149 wc_0, ?_⟩
    refine ax_eq ((if_pos rfl)) ?_
    refine ax_astore_n (tv2 := [(3, ax_A (some a5)), (0, ax_A x0), (1, ax_I x1), (2, ax_I x2)]) B d_Law_mode_9 rfl (by decide) rfl ?_
    refine ax_iconst (v := 1) B d_Law_mode_10 (by decide) ?_
    exact ax_ireturn B d_Law_mode_11
  · exact Or.inl (if_neg e0)

theorem d_Law_register_0 : decode method_4_code 0 = .ok (.aload_n 2, 1) := by decide +kernel
theorem d_Law_register_1 : decode method_4_code 1 = .ok (.iconst 0, 1) := by decide +kernel
theorem d_Law_register_2 : decode method_4_code 2 = .ok (.aload_n 0, 1) := by decide +kernel
theorem d_Law_register_3 : decode method_4_code 3 = .ok (.iload_n 1, 1) := by decide +kernel
theorem d_Law_register_4 : decode method_4_code 4 = .ok (.invokevirtual 15, 3) := by decide +kernel
theorem d_Law_register_7 : decode method_4_code 7 = .ok (.i2l, 1) := by decide +kernel
theorem d_Law_register_8 : decode method_4_code 8 = .ok (.lastore, 1) := by decide +kernel
theorem d_Law_register_9 : decode method_4_code 9 = .ok (.goto 9, 3) := by decide +kernel
theorem d_Law_register_12 : decode method_4_code 12 = .ok (.astore_n 3, 1) := by decide +kernel
theorem d_Law_register_13 : decode method_4_code 13 = .ok (.iconst 1, 1) := by decide +kernel
theorem d_Law_register_14 : decode method_4_code 14 = .ok (.ireturn, 1) := by decide +kernel
theorem d_Law_register_15 : decode method_4_code 15 = .ok (.astore_n 3, 1) := by decide +kernel
theorem d_Law_register_16 : decode method_4_code 16 = .ok (.iconst 2, 1) := by decide +kernel
theorem d_Law_register_17 : decode method_4_code 17 = .ok (.ireturn, 1) := by decide +kernel
theorem d_Law_register_18 : decode method_4_code 18 = .ok (.iconst 0, 1) := by decide +kernel
theorem d_Law_register_19 : decode method_4_code 19 = .ok (.ireturn, 1) := by decide +kernel
def Law_register_b (call : ax_Cf) (x0 : Option Nat) (x1 : Int32) (x2 : Option Nat) (h : ax_Hp) : ax_O :=
  ax_on h x0 8 <| ax_cx (call 19 [ax_A x0, ax_I x1] h) (fun w3 h1 => ax_oi w3 fun v2 =>
    (ax_st h1 x2 2 0 (ax_L (v2.toInt64))).bind fun h6 =>
    ax_ri 0 h6)
    (fun k4 a5 h1 =>
      if k4 = 0 then
      ax_ri 1 h1
      else
      if k4 = 1 then
      ax_ri 2 h1
      else
      none)
set_option maxHeartbeats 4000000 in
set_option maxRecDepth 20000 in
theorem Law_register_t {l : Launch} {G : ax_G} {d : Nat} {call : ax_Cf} (hcall : ax_Hc l G d call) (x0 : Option Nat) (x1 : Int32) (x2 : Option Nat) (h : ax_Hp) {r : ax_Rs} {h' : ax_Hp} (ho : Law_register_b call x0 x1 x2 h = some (r, h')) : ax_C l G (d + 1) y_Law_register (.codeWith y_Law_register method_4_code 4 (some (.int)) [(0, 9, 12, 13), (0, 9, 15, 19)]) [ax_A x0, ax_I x1, ax_A x2] h r h' := by
  refine ax_enterW (by decide) (Nat.le_of_ble_eq_true rfl) ho (fun p e s mi args below meth c B HS => ?_)
  have B : ax_B G p s mi meth c "SchemaDeskLaw" method_4_code 4 (some (.int)) := B
  show ax_W G p l e s mi args below meth c 4 (d + 1) h 0 [(0, ax_A x0), (1, ax_I x1), (2, ax_A x2)] [] h (Law_register_b call x0 x1 x2 h)
  unfold Law_register_b
  refine ax_aload_n B 2 d_Law_register_0 rfl rfl ?_
  refine ax_iconst (v := 0) B d_Law_register_1 (by decide) ?_
  refine ax_aload_n B 0 d_Law_register_2 rfl rfl ?_
  refine ax_iload_n B 1 d_Law_register_3 rfl rfl ?_
  refine ax_callVH (av := [ax_I x1]) (rest := [ax_I 0, ax_A x2]) B hm_Desk_register cl_Desk rfl wd_230 wd_231 lk_Law_15 d_Law_register_4 rfl (Nat.le_of_ble_eq_true rfl) (fun _ _ hh => hcall 19 _ _ _ _ hh) (fun w3 h1 => ax_Woi (fun v2 => ?_) w3) (fun k4 a5 h1 => ?_)
  · refine ax_i2l B d_Law_register_7 ?_
    refine ax_last (kd := 2) B (by decide) (by decide) rfl d_Law_register_8 (fun h6 => ?_)
    refine ax_goto B 18 d_Law_register_9 (by decide) ?_
    refine ax_iconst (v := 0) B d_Law_register_18 (by decide) ?_
    exact ax_ireturn B d_Law_register_19
  by_cases e0 : k4 = 0
  · subst e0
    refine Or.inr ⟨12, ax_cat20 HS rfl (by decide) wd_149 wc_0, ?_⟩
    refine ax_eq ((if_pos rfl)) ?_
    refine ax_astore_n (tv2 := [(3, ax_A (some a5)), (0, ax_A x0), (1, ax_I x1), (2, ax_A x2)]) B d_Law_register_12 rfl (by decide) rfl ?_
    refine ax_iconst (v := 1) B d_Law_register_13 (by decide) ?_
    exact ax_ireturn B d_Law_register_14
  by_cases e1 : k4 = 1
  · subst e1
    refine Or.inr ⟨15, ax_cat21 HS rfl (by decide) wd_228 wc_1 (by decide) wd_149 B.2.2.2.2.2.2.2.2.2.2, ?_⟩
    refine ax_eq ((if_neg (by decide)).trans (if_pos rfl)) ?_
    refine ax_astore_n (tv2 := [(3, ax_A (some a5)), (0, ax_A x0), (1, ax_I x1), (2, ax_A x2)]) B d_Law_register_15 rfl (by decide) rfl ?_
    refine ax_iconst (v := 2) B d_Law_register_16 (by decide) ?_
    exact ax_ireturn B d_Law_register_17
  · exact Or.inl ((if_neg e0).trans (if_neg e1))

theorem d_Law_versions_0 : decode method_5_code 0 = .ok (.aload_n 2, 1) := by decide +kernel
theorem d_Law_versions_1 : decode method_5_code 1 = .ok (.iconst 0, 1) := by decide +kernel
theorem d_Law_versions_2 : decode method_5_code 2 = .ok (.aload_n 0, 1) := by decide +kernel
theorem d_Law_versions_3 : decode method_5_code 3 = .ok (.iload_n 1, 1) := by decide +kernel
theorem d_Law_versions_4 : decode method_5_code 4 = .ok (.invokevirtual 21, 3) := by decide +kernel
theorem d_Law_versions_7 : decode method_5_code 7 = .ok (.i2l, 1) := by decide +kernel
theorem d_Law_versions_8 : decode method_5_code 8 = .ok (.lastore, 1) := by decide +kernel
theorem d_Law_versions_9 : decode method_5_code 9 = .ok (.goto 6, 3) := by decide +kernel
theorem d_Law_versions_12 : decode method_5_code 12 = .ok (.astore_n 3, 1) := by decide +kernel
theorem d_Law_versions_13 : decode method_5_code 13 = .ok (.iconst 1, 1) := by decide +kernel
theorem d_Law_versions_14 : decode method_5_code 14 = .ok (.ireturn, 1) := by decide +kernel
theorem d_Law_versions_15 : decode method_5_code 15 = .ok (.iconst 0, 1) := by decide +kernel
theorem d_Law_versions_16 : decode method_5_code 16 = .ok (.ireturn, 1) := by decide +kernel
def Law_versions_b (call : ax_Cf) (x0 : Option Nat) (x1 : Int32) (x2 : Option Nat) (h : ax_Hp) : ax_O :=
  ax_on h x0 8 <| ax_cx (call 90 [ax_A x0, ax_I x1] h) (fun w3 h1 => ax_oi w3 fun v2 =>
    (ax_st h1 x2 2 0 (ax_L (v2.toInt64))).bind fun h6 =>
    ax_ri 0 h6)
    (fun k4 a5 h1 =>
      if k4 = 0 then
      ax_ri 1 h1
      else
      none)
set_option maxHeartbeats 4000000 in
set_option maxRecDepth 20000 in
theorem Law_versions_t {l : Launch} {G : ax_G} {d : Nat} {call : ax_Cf} (hcall : ax_Hc l G d call) (x0 : Option Nat) (x1 : Int32) (x2 : Option Nat) (h : ax_Hp) {r : ax_Rs} {h' : ax_Hp} (ho : Law_versions_b call x0 x1 x2 h = some (r, h')) : ax_C l G (d + 1) y_Law_versions (.codeWith y_Law_versions method_5_code 4 (some (.int)) [(0, 9, 12, 13)]) [ax_A x0, ax_I x1, ax_A x2] h r h' := by
  refine ax_enterW (by decide) (Nat.le_of_ble_eq_true rfl) ho (fun p e s mi args below meth c B HS => ?_)
  have B : ax_B G p s mi meth c "SchemaDeskLaw" method_5_code 4 (some (.int)) := B
  show ax_W G p l e s mi args below meth c 4 (d + 1) h 0 [(0, ax_A x0), (1, ax_I x1), (2, ax_A x2)] [] h (Law_versions_b call x0 x1 x2 h)
  unfold Law_versions_b
  refine ax_aload_n B 2 d_Law_versions_0 rfl rfl ?_
  refine ax_iconst (v := 0) B d_Law_versions_1 (by decide) ?_
  refine ax_aload_n B 0 d_Law_versions_2 rfl rfl ?_
  refine ax_iload_n B 1 d_Law_versions_3 rfl rfl ?_
  refine ax_callVH (av := [ax_I x1]) (rest := [ax_I 0, ax_A x2]) B hm_Desk_versions cl_Desk rfl wd_593 wd_594 lk_Law_21 d_Law_versions_4 rfl (Nat.le_of_ble_eq_true rfl) (fun _ _ hh => hcall 90 _ _ _ _ hh) (fun w3 h1 => ax_Woi (fun v2 => ?_) w3) (fun k4 a5 h1 => ?_)
  · refine ax_i2l B d_Law_versions_7 ?_
    refine ax_last (kd := 2) B (by decide) (by decide) rfl d_Law_versions_8 (fun h6 => ?_)
    refine ax_goto B 15 d_Law_versions_9 (by decide) ?_
    refine ax_iconst (v := 0) B d_Law_versions_15 (by decide) ?_
    exact ax_ireturn B d_Law_versions_16
  by_cases e0 : k4 = 0
  · subst e0
    refine Or.inr ⟨12, ax_cat1 HS rfl (by decide) wd_149 wc_0, ?_⟩
    refine ax_eq ((if_pos rfl)) ?_
    refine ax_astore_n (tv2 := [(3, ax_A (some a5)), (0, ax_A x0), (1, ax_I x1), (2, ax_A x2)]) B d_Law_versions_12 rfl (by decide) rfl ?_
    refine ax_iconst (v := 1) B d_Law_versions_13 (by decide) ?_
    exact ax_ireturn B d_Law_versions_14
  · exact Or.inl (if_neg e0)

theorem d_Law_reads_0 : decode method_6_code 0 = .ok (.aload 4, 2) := by decide +kernel
theorem d_Law_reads_2 : decode method_6_code 2 = .ok (.iconst 0, 1) := by decide +kernel
theorem d_Law_reads_3 : decode method_6_code 3 = .ok (.aload_n 0, 1) := by decide +kernel
theorem d_Law_reads_4 : decode method_6_code 4 = .ok (.iload_n 1, 1) := by decide +kernel
theorem d_Law_reads_5 : decode method_6_code 5 = .ok (.iload_n 2, 1) := by decide +kernel
theorem d_Law_reads_6 : decode method_6_code 6 = .ok (.iload_n 3, 1) := by decide +kernel
theorem d_Law_reads_7 : decode method_6_code 7 = .ok (.invokevirtual 24, 3) := by decide +kernel
theorem d_Law_reads_10 : decode method_6_code 10 = .ok (.ifCond .eq 7, 3) := by decide +kernel
theorem d_Law_reads_13 : decode method_6_code 13 = .ok (.lconst 1, 1) := by decide +kernel
theorem d_Law_reads_14 : decode method_6_code 14 = .ok (.goto 4, 3) := by decide +kernel
theorem d_Law_reads_17 : decode method_6_code 17 = .ok (.lconst 0, 1) := by decide +kernel
theorem d_Law_reads_18 : decode method_6_code 18 = .ok (.lastore, 1) := by decide +kernel
theorem d_Law_reads_19 : decode method_6_code 19 = .ok (.goto 7, 3) := by decide +kernel
theorem d_Law_reads_22 : decode method_6_code 22 = .ok (.astore 5, 2) := by decide +kernel
theorem d_Law_reads_24 : decode method_6_code 24 = .ok (.iconst 1, 1) := by decide +kernel
theorem d_Law_reads_25 : decode method_6_code 25 = .ok (.ireturn, 1) := by decide +kernel
theorem d_Law_reads_26 : decode method_6_code 26 = .ok (.iconst 0, 1) := by decide +kernel
theorem d_Law_reads_27 : decode method_6_code 27 = .ok (.ireturn, 1) := by decide +kernel
def Law_reads_b (call : ax_Cf) (x0 : Option Nat) (x1 : Int32) (x2 : Int32) (x3 : Int32) (x4 : Option Nat) (h : ax_Hp) : ax_O :=
  ax_on h x0 8 <| ax_cx (call 93 [ax_A x0, ax_I x1, ax_I x2, ax_I x3] h) (fun w3 h1 => ax_oi w3 fun v2 =>
    if v2 = 0 then
      (ax_st h1 x4 2 0 (ax_L 0)).bind fun h6 =>
      ax_ri 0 h6
    else
      (ax_st h1 x4 2 0 (ax_L 1)).bind fun h7 =>
      ax_ri 0 h7)
    (fun k4 a5 h1 =>
      if k4 = 0 then
      ax_ri 1 h1
      else
      none)
set_option maxHeartbeats 4000000 in
set_option maxRecDepth 20000 in
theorem Law_reads_t {l : Launch} {G : ax_G} {d : Nat} {call : ax_Cf} (hcall : ax_Hc l G d call) (x0 : Option Nat) (x1 : Int32) (x2 : Int32) (x3 : Int32) (x4 : Option Nat) (h : ax_Hp) {r : ax_Rs} {h' : ax_Hp} (ho : Law_reads_b call x0 x1 x2 x3 x4 h = some (r, h')) : ax_C l G (d + 1) y_Law_reads (.codeWith y_Law_reads method_6_code 6 (some (.int)) [(0, 19, 22, 13)]) [ax_A x0, ax_I x1, ax_I x2, ax_I x3, ax_A x4] h r h' := by
  refine ax_enterW (by decide) (Nat.le_of_ble_eq_true rfl) ho (fun p e s mi args below meth c B HS => ?_)
  have B : ax_B G p s mi meth c "SchemaDeskLaw" method_6_code 6 (some (.int)) := B
  show ax_W G p l e s mi args below meth c 6 (d + 1) h 0 [(0, ax_A x0), (1, ax_I x1), (2, ax_I x2), (3, ax_I x3), (4, ax_A x4)] [] h (Law_reads_b call x0 x1 x2 x3 x4 h)
  unfold Law_reads_b
  refine ax_aload B 4 d_Law_reads_0 rfl ?_
  refine ax_iconst (v := 0) B d_Law_reads_2 (by decide) ?_
  refine ax_aload_n B 0 d_Law_reads_3 rfl rfl ?_
  refine ax_iload_n B 1 d_Law_reads_4 rfl rfl ?_
  refine ax_iload_n B 2 d_Law_reads_5 rfl rfl ?_
  refine ax_iload_n B 3 d_Law_reads_6 rfl rfl ?_
  refine ax_callVH (av := [ax_I x1, ax_I x2, ax_I x3]) (rest := [ax_I 0, ax_A x4]) B hm_Desk_reads cl_Desk rfl wd_604 wd_605 lk_Law_24 d_Law_reads_7 rfl (Nat.le_of_ble_eq_true rfl) (fun _ _ hh => hcall 93 _ _ _ _ hh) (fun w3 h1 => ax_Woi (fun v2 => ?_) w3) (fun k4 a5 h1 => ?_)
  · refine ax_if_eq B 17 d_Law_reads_10 (by decide) ?_ ?_
    · refine ax_lconst (v := 0) B d_Law_reads_17 (by decide) ?_
      refine ax_last (kd := 2) B (by decide) (by decide) rfl d_Law_reads_18 (fun h6 => ?_)
      refine ax_goto B 26 d_Law_reads_19 (by decide) ?_
      refine ax_iconst (v := 0) B d_Law_reads_26 (by decide) ?_
      exact ax_ireturn B d_Law_reads_27
    · refine ax_lconst (v := 1) B d_Law_reads_13 (by decide) ?_
      refine ax_goto B 18 d_Law_reads_14 (by decide) ?_
      refine ax_last (kd := 2) B (by decide) (by decide) rfl d_Law_reads_18 (fun h7 => ?_)
      refine ax_goto B 26 d_Law_reads_19 (by decide) ?_
      refine ax_iconst (v := 0) B d_Law_reads_26 (by decide) ?_
      exact ax_ireturn B d_Law_reads_27
  by_cases e0 : k4 = 0
  · subst e0
    refine Or.inr ⟨22, ax_cat1 HS rfl (by decide) wd_149 wc_0, ?_⟩
    refine ax_eq ((if_pos rfl)) ?_
    refine ax_astore (tv2 := [(5, ax_A (some a5)), (0, ax_A x0), (1, ax_I x1), (2, ax_I x2), (3, ax_I x3), (4, ax_A x4)]) B d_Law_reads_22 (by decide) rfl ?_
    refine ax_iconst (v := 1) B d_Law_reads_24 (by decide) ?_
    exact ax_ireturn B d_Law_reads_25
  · exact Or.inl (if_neg e0)

theorem d_Law_print_0 : decode method_7_code 0 = .ok (.aload 4, 2) := by decide +kernel
theorem d_Law_print_2 : decode method_7_code 2 = .ok (.iconst 0, 1) := by decide +kernel
theorem d_Law_print_3 : decode method_7_code 3 = .ok (.aload_n 0, 1) := by decide +kernel
theorem d_Law_print_4 : decode method_7_code 4 = .ok (.iload_n 1, 1) := by decide +kernel
theorem d_Law_print_5 : decode method_7_code 5 = .ok (.iload_n 2, 1) := by decide +kernel
theorem d_Law_print_6 : decode method_7_code 6 = .ok (.iload_n 3, 1) := by decide +kernel
theorem d_Law_print_7 : decode method_7_code 7 = .ok (.invokevirtual 28, 3) := by decide +kernel
theorem d_Law_print_10 : decode method_7_code 10 = .ok (.i2l, 1) := by decide +kernel
theorem d_Law_print_11 : decode method_7_code 11 = .ok (.lastore, 1) := by decide +kernel
theorem d_Law_print_12 : decode method_7_code 12 = .ok (.goto 7, 3) := by decide +kernel
theorem d_Law_print_15 : decode method_7_code 15 = .ok (.astore 5, 2) := by decide +kernel
theorem d_Law_print_17 : decode method_7_code 17 = .ok (.iconst 1, 1) := by decide +kernel
theorem d_Law_print_18 : decode method_7_code 18 = .ok (.ireturn, 1) := by decide +kernel
theorem d_Law_print_19 : decode method_7_code 19 = .ok (.iconst 0, 1) := by decide +kernel
theorem d_Law_print_20 : decode method_7_code 20 = .ok (.ireturn, 1) := by decide +kernel
def Law_print_b (call : ax_Cf) (x0 : Option Nat) (x1 : Int32) (x2 : Int32) (x3 : Int32) (x4 : Option Nat) (h : ax_Hp) : ax_O :=
  ax_on h x0 8 <| ax_cx (call 97 [ax_A x0, ax_I x1, ax_I x2, ax_I x3] h) (fun w3 h1 => ax_oi w3 fun v2 =>
    (ax_st h1 x4 2 0 (ax_L (v2.toInt64))).bind fun h6 =>
    ax_ri 0 h6)
    (fun k4 a5 h1 =>
      if k4 = 0 then
      ax_ri 1 h1
      else
      none)
set_option maxHeartbeats 4000000 in
set_option maxRecDepth 20000 in
theorem Law_print_t {l : Launch} {G : ax_G} {d : Nat} {call : ax_Cf} (hcall : ax_Hc l G d call) (x0 : Option Nat) (x1 : Int32) (x2 : Int32) (x3 : Int32) (x4 : Option Nat) (h : ax_Hp) {r : ax_Rs} {h' : ax_Hp} (ho : Law_print_b call x0 x1 x2 x3 x4 h = some (r, h')) : ax_C l G (d + 1) y_Law_print (.codeWith y_Law_print method_7_code 6 (some (.int)) [(0, 12, 15, 13)]) [ax_A x0, ax_I x1, ax_I x2, ax_I x3, ax_A x4] h r h' := by
  refine ax_enterW (by decide) (Nat.le_of_ble_eq_true rfl) ho (fun p e s mi args below meth c B HS => ?_)
  have B : ax_B G p s mi meth c "SchemaDeskLaw" method_7_code 6 (some (.int)) := B
  show ax_W G p l e s mi args below meth c 6 (d + 1) h 0 [(0, ax_A x0), (1, ax_I x1), (2, ax_I x2), (3, ax_I x3), (4, ax_A x4)] [] h (Law_print_b call x0 x1 x2 x3 x4 h)
  unfold Law_print_b
  refine ax_aload B 4 d_Law_print_0 rfl ?_
  refine ax_iconst (v := 0) B d_Law_print_2 (by decide) ?_
  refine ax_aload_n B 0 d_Law_print_3 rfl rfl ?_
  refine ax_iload_n B 1 d_Law_print_4 rfl rfl ?_
  refine ax_iload_n B 2 d_Law_print_5 rfl rfl ?_
  refine ax_iload_n B 3 d_Law_print_6 rfl rfl ?_
  refine ax_callVH (av := [ax_I x1, ax_I x2, ax_I x3]) (rest := [ax_I 0, ax_A x4]) B hm_Desk_print cl_Desk rfl wd_620 wd_621 lk_Law_28 d_Law_print_7 rfl (Nat.le_of_ble_eq_true rfl) (fun _ _ hh => hcall 97 _ _ _ _ hh) (fun w3 h1 => ax_Woi (fun v2 => ?_) w3) (fun k4 a5 h1 => ?_)
  · refine ax_i2l B d_Law_print_10 ?_
    refine ax_last (kd := 2) B (by decide) (by decide) rfl d_Law_print_11 (fun h6 => ?_)
    refine ax_goto B 19 d_Law_print_12 (by decide) ?_
    refine ax_iconst (v := 0) B d_Law_print_19 (by decide) ?_
    exact ax_ireturn B d_Law_print_20
  by_cases e0 : k4 = 0
  · subst e0
    refine Or.inr ⟨15, ax_cat1 HS rfl (by decide) wd_149 wc_0, ?_⟩
    refine ax_eq ((if_pos rfl)) ?_
    refine ax_astore (tv2 := [(5, ax_A (some a5)), (0, ax_A x0), (1, ax_I x1), (2, ax_I x2), (3, ax_I x3), (4, ax_A x4)]) B d_Law_print_15 (by decide) rfl ?_
    refine ax_iconst (v := 1) B d_Law_print_17 (by decide) ?_
    exact ax_ireturn B d_Law_print_18
  · exact Or.inl (if_neg e0)

theorem d_Law_fingerprint_0 : decode method_8_code 0 = .ok (.aload_n 3, 1) := by decide +kernel
theorem d_Law_fingerprint_1 : decode method_8_code 1 = .ok (.iconst 0, 1) := by decide +kernel
theorem d_Law_fingerprint_2 : decode method_8_code 2 = .ok (.aload_n 0, 1) := by decide +kernel
theorem d_Law_fingerprint_3 : decode method_8_code 3 = .ok (.iload_n 1, 1) := by decide +kernel
theorem d_Law_fingerprint_4 : decode method_8_code 4 = .ok (.iload_n 2, 1) := by decide +kernel
theorem d_Law_fingerprint_5 : decode method_8_code 5 = .ok (.invokevirtual 32, 3) := by decide +kernel
theorem d_Law_fingerprint_8 : decode method_8_code 8 = .ok (.lastore, 1) := by decide +kernel
theorem d_Law_fingerprint_9 : decode method_8_code 9 = .ok (.goto 7, 3) := by decide +kernel
theorem d_Law_fingerprint_12 : decode method_8_code 12 = .ok (.astore 4, 2) := by decide +kernel
theorem d_Law_fingerprint_14 : decode method_8_code 14 = .ok (.iconst 1, 1) := by decide +kernel
theorem d_Law_fingerprint_15 : decode method_8_code 15 = .ok (.ireturn, 1) := by decide +kernel
theorem d_Law_fingerprint_16 : decode method_8_code 16 = .ok (.iconst 0, 1) := by decide +kernel
theorem d_Law_fingerprint_17 : decode method_8_code 17 = .ok (.ireturn, 1) := by decide +kernel
def Law_fingerprint_b (call : ax_Cf) (x0 : Option Nat) (x1 : Int32) (x2 : Int32) (x3 : Option Nat) (h : ax_Hp) : ax_O :=
  ax_on h x0 8 <| ax_cx (call 102 [ax_A x0, ax_I x1, ax_I x2] h) (fun w3 h1 => ax_ol w3 fun v2 =>
    (ax_st h1 x3 2 0 (ax_L v2)).bind fun h6 =>
    ax_ri 0 h6)
    (fun k4 a5 h1 =>
      if k4 = 0 then
      ax_ri 1 h1
      else
      none)
set_option maxHeartbeats 4000000 in
set_option maxRecDepth 20000 in
theorem Law_fingerprint_t {l : Launch} {G : ax_G} {d : Nat} {call : ax_Cf} (hcall : ax_Hc l G d call) (x0 : Option Nat) (x1 : Int32) (x2 : Int32) (x3 : Option Nat) (h : ax_Hp) {r : ax_Rs} {h' : ax_Hp} (ho : Law_fingerprint_b call x0 x1 x2 x3 h = some (r, h')) : ax_C l G (d + 1) y_Law_fingerprint (.codeWith y_Law_fingerprint method_8_code 5 (some (.int)) [(0, 9, 12, 13)]) [ax_A x0, ax_I x1, ax_I x2, ax_A x3] h r h' := by
  refine ax_enterW (by decide) (Nat.le_of_ble_eq_true rfl) ho (fun p e s mi args below meth c B HS => ?_)
  have B : ax_B G p s mi meth c "SchemaDeskLaw" method_8_code 5 (some (.int)) := B
  show ax_W G p l e s mi args below meth c 5 (d + 1) h 0 [(0, ax_A x0), (1, ax_I x1), (2, ax_I x2), (3, ax_A x3)] [] h (Law_fingerprint_b call x0 x1 x2 x3 h)
  unfold Law_fingerprint_b
  refine ax_aload_n B 3 d_Law_fingerprint_0 rfl rfl ?_
  refine ax_iconst (v := 0) B d_Law_fingerprint_1 (by decide) ?_
  refine ax_aload_n B 0 d_Law_fingerprint_2 rfl rfl ?_
  refine ax_iload_n B 1 d_Law_fingerprint_3 rfl rfl ?_
  refine ax_iload_n B 2 d_Law_fingerprint_4 rfl rfl ?_
  refine ax_callVH (av := [ax_I x1, ax_I x2]) (rest := [ax_I 0, ax_A x3]) B hm_Desk_fingerprint cl_Desk rfl wd_641 wd_642 lk_Law_32 d_Law_fingerprint_5 rfl (Nat.le_of_ble_eq_true rfl) (fun _ _ hh => hcall 102 _ _ _ _ hh) (fun w3 h1 => ax_Wol (fun v2 => ?_) w3) (fun k4 a5 h1 => ?_)
  · refine ax_last (kd := 2) B (by decide) (by decide) rfl d_Law_fingerprint_8 (fun h6 => ?_)
    refine ax_goto B 16 d_Law_fingerprint_9 (by decide) ?_
    refine ax_iconst (v := 0) B d_Law_fingerprint_16 (by decide) ?_
    exact ax_ireturn B d_Law_fingerprint_17
  by_cases e0 : k4 = 0
  · subst e0
    refine Or.inr ⟨12, ax_cat1 HS rfl (by decide) wd_149 wc_0, ?_⟩
    refine ax_eq ((if_pos rfl)) ?_
    refine ax_astore (tv2 := [(4, ax_A (some a5)), (0, ax_A x0), (1, ax_I x1), (2, ax_I x2), (3, ax_A x3)]) B d_Law_fingerprint_12 (by decide) rfl ?_
    refine ax_iconst (v := 1) B d_Law_fingerprint_14 (by decide) ?_
    exact ax_ireturn B d_Law_fingerprint_15
  · exact Or.inl (if_neg e0)

theorem d_Law_encode_0 : decode method_9_code 0 = .ok (.aload_n 3, 1) := by decide +kernel
theorem d_Law_encode_1 : decode method_9_code 1 = .ok (.iconst 0, 1) := by decide +kernel
theorem d_Law_encode_2 : decode method_9_code 2 = .ok (.aload_n 0, 1) := by decide +kernel
theorem d_Law_encode_3 : decode method_9_code 3 = .ok (.iload_n 1, 1) := by decide +kernel
theorem d_Law_encode_4 : decode method_9_code 4 = .ok (.iload_n 2, 1) := by decide +kernel
theorem d_Law_encode_5 : decode method_9_code 5 = .ok (.invokevirtual 36, 3) := by decide +kernel
theorem d_Law_encode_8 : decode method_9_code 8 = .ok (.i2l, 1) := by decide +kernel
theorem d_Law_encode_9 : decode method_9_code 9 = .ok (.lastore, 1) := by decide +kernel
theorem d_Law_encode_10 : decode method_9_code 10 = .ok (.goto 7, 3) := by decide +kernel
theorem d_Law_encode_13 : decode method_9_code 13 = .ok (.astore 4, 2) := by decide +kernel
theorem d_Law_encode_15 : decode method_9_code 15 = .ok (.iconst 1, 1) := by decide +kernel
theorem d_Law_encode_16 : decode method_9_code 16 = .ok (.ireturn, 1) := by decide +kernel
theorem d_Law_encode_17 : decode method_9_code 17 = .ok (.iconst 0, 1) := by decide +kernel
theorem d_Law_encode_18 : decode method_9_code 18 = .ok (.ireturn, 1) := by decide +kernel
def Law_encode_b (call : ax_Cf) (x0 : Option Nat) (x1 : Int32) (x2 : Int32) (x3 : Option Nat) (h : ax_Hp) : ax_O :=
  ax_on h x0 8 <| ax_cx (call 105 [ax_A x0, ax_I x1, ax_I x2] h) (fun w3 h1 => ax_oi w3 fun v2 =>
    (ax_st h1 x3 2 0 (ax_L (v2.toInt64))).bind fun h6 =>
    ax_ri 0 h6)
    (fun k4 a5 h1 =>
      if k4 = 0 then
      ax_ri 1 h1
      else
      none)
set_option maxHeartbeats 4000000 in
set_option maxRecDepth 20000 in
theorem Law_encode_t {l : Launch} {G : ax_G} {d : Nat} {call : ax_Cf} (hcall : ax_Hc l G d call) (x0 : Option Nat) (x1 : Int32) (x2 : Int32) (x3 : Option Nat) (h : ax_Hp) {r : ax_Rs} {h' : ax_Hp} (ho : Law_encode_b call x0 x1 x2 x3 h = some (r, h')) : ax_C l G (d + 1) y_Law_encode (.codeWith y_Law_encode method_9_code 5 (some (.int)) [(0, 10, 13, 13)]) [ax_A x0, ax_I x1, ax_I x2, ax_A x3] h r h' := by
  refine ax_enterW (by decide) (Nat.le_of_ble_eq_true rfl) ho (fun p e s mi args below meth c B HS => ?_)
  have B : ax_B G p s mi meth c "SchemaDeskLaw" method_9_code 5 (some (.int)) := B
  show ax_W G p l e s mi args below meth c 5 (d + 1) h 0 [(0, ax_A x0), (1, ax_I x1), (2, ax_I x2), (3, ax_A x3)] [] h (Law_encode_b call x0 x1 x2 x3 h)
  unfold Law_encode_b
  refine ax_aload_n B 3 d_Law_encode_0 rfl rfl ?_
  refine ax_iconst (v := 0) B d_Law_encode_1 (by decide) ?_
  refine ax_aload_n B 0 d_Law_encode_2 rfl rfl ?_
  refine ax_iload_n B 1 d_Law_encode_3 rfl rfl ?_
  refine ax_iload_n B 2 d_Law_encode_4 rfl rfl ?_
  refine ax_callVH (av := [ax_I x1, ax_I x2]) (rest := [ax_I 0, ax_A x3]) B hm_Desk_encode cl_Desk rfl wd_654 wd_655 lk_Law_36 d_Law_encode_5 rfl (Nat.le_of_ble_eq_true rfl) (fun _ _ hh => hcall 105 _ _ _ _ hh) (fun w3 h1 => ax_Woi (fun v2 => ?_) w3) (fun k4 a5 h1 => ?_)
  · refine ax_i2l B d_Law_encode_8 ?_
    refine ax_last (kd := 2) B (by decide) (by decide) rfl d_Law_encode_9 (fun h6 => ?_)
    refine ax_goto B 17 d_Law_encode_10 (by decide) ?_
    refine ax_iconst (v := 0) B d_Law_encode_17 (by decide) ?_
    exact ax_ireturn B d_Law_encode_18
  by_cases e0 : k4 = 0
  · subst e0
    refine Or.inr ⟨13, ax_cat1 HS rfl (by decide) wd_149 wc_0, ?_⟩
    refine ax_eq ((if_pos rfl)) ?_
    refine ax_astore (tv2 := [(4, ax_A (some a5)), (0, ax_A x0), (1, ax_I x1), (2, ax_I x2), (3, ax_A x3)]) B d_Law_encode_13 (by decide) rfl ?_
    refine ax_iconst (v := 1) B d_Law_encode_15 (by decide) ?_
    exact ax_ireturn B d_Law_encode_16
  · exact Or.inl (if_neg e0)

theorem d_Law_decode_0 : decode method_10_code 0 = .ok (.aload 4, 2) := by decide +kernel
theorem d_Law_decode_2 : decode method_10_code 2 = .ok (.iconst 0, 1) := by decide +kernel
theorem d_Law_decode_3 : decode method_10_code 3 = .ok (.aload_n 0, 1) := by decide +kernel
theorem d_Law_decode_4 : decode method_10_code 4 = .ok (.iload_n 1, 1) := by decide +kernel
theorem d_Law_decode_5 : decode method_10_code 5 = .ok (.iload_n 2, 1) := by decide +kernel
theorem d_Law_decode_6 : decode method_10_code 6 = .ok (.iload_n 3, 1) := by decide +kernel
theorem d_Law_decode_7 : decode method_10_code 7 = .ok (.invokevirtual 40, 3) := by decide +kernel
theorem d_Law_decode_10 : decode method_10_code 10 = .ok (.i2l, 1) := by decide +kernel
theorem d_Law_decode_11 : decode method_10_code 11 = .ok (.lastore, 1) := by decide +kernel
theorem d_Law_decode_12 : decode method_10_code 12 = .ok (.goto 11, 3) := by decide +kernel
theorem d_Law_decode_15 : decode method_10_code 15 = .ok (.astore 5, 2) := by decide +kernel
theorem d_Law_decode_17 : decode method_10_code 17 = .ok (.iconst 1, 1) := by decide +kernel
theorem d_Law_decode_18 : decode method_10_code 18 = .ok (.ireturn, 1) := by decide +kernel
theorem d_Law_decode_19 : decode method_10_code 19 = .ok (.astore 5, 2) := by decide +kernel
theorem d_Law_decode_21 : decode method_10_code 21 = .ok (.iconst 2, 1) := by decide +kernel
theorem d_Law_decode_22 : decode method_10_code 22 = .ok (.ireturn, 1) := by decide +kernel
theorem d_Law_decode_23 : decode method_10_code 23 = .ok (.iconst 0, 1) := by decide +kernel
theorem d_Law_decode_24 : decode method_10_code 24 = .ok (.ireturn, 1) := by decide +kernel
def Law_decode_b (call : ax_Cf) (x0 : Option Nat) (x1 : Int32) (x2 : Int32) (x3 : Int32) (x4 : Option Nat) (h : ax_Hp) : ax_O :=
  ax_on h x0 8 <| ax_cx (call 108 [ax_A x0, ax_I x1, ax_I x2, ax_I x3] h) (fun w3 h1 => ax_oi w3 fun v2 =>
    (ax_st h1 x4 2 0 (ax_L (v2.toInt64))).bind fun h6 =>
    ax_ri 0 h6)
    (fun k4 a5 h1 =>
      if k4 = 0 then
      ax_ri 1 h1
      else
      if k4 = 1 then
      ax_ri 2 h1
      else
      none)
set_option maxHeartbeats 4000000 in
set_option maxRecDepth 20000 in
theorem Law_decode_t {l : Launch} {G : ax_G} {d : Nat} {call : ax_Cf} (hcall : ax_Hc l G d call) (x0 : Option Nat) (x1 : Int32) (x2 : Int32) (x3 : Int32) (x4 : Option Nat) (h : ax_Hp) {r : ax_Rs} {h' : ax_Hp} (ho : Law_decode_b call x0 x1 x2 x3 x4 h = some (r, h')) : ax_C l G (d + 1) y_Law_decode (.codeWith y_Law_decode method_10_code 6 (some (.int)) [(0, 12, 15, 13), (0, 12, 19, 19)]) [ax_A x0, ax_I x1, ax_I x2, ax_I x3, ax_A x4] h r h' := by
  refine ax_enterW (by decide) (Nat.le_of_ble_eq_true rfl) ho (fun p e s mi args below meth c B HS => ?_)
  have B : ax_B G p s mi meth c "SchemaDeskLaw" method_10_code 6 (some (.int)) := B
  show ax_W G p l e s mi args below meth c 6 (d + 1) h 0 [(0, ax_A x0), (1, ax_I x1), (2, ax_I x2), (3, ax_I x3), (4, ax_A x4)] [] h (Law_decode_b call x0 x1 x2 x3 x4 h)
  unfold Law_decode_b
  refine ax_aload B 4 d_Law_decode_0 rfl ?_
  refine ax_iconst (v := 0) B d_Law_decode_2 (by decide) ?_
  refine ax_aload_n B 0 d_Law_decode_3 rfl rfl ?_
  refine ax_iload_n B 1 d_Law_decode_4 rfl rfl ?_
  refine ax_iload_n B 2 d_Law_decode_5 rfl rfl ?_
  refine ax_iload_n B 3 d_Law_decode_6 rfl rfl ?_
  refine ax_callVH (av := [ax_I x1, ax_I x2, ax_I x3]) (rest := [ax_I 0, ax_A x4]) B hm_Desk_decode cl_Desk rfl wd_667 wd_668 lk_Law_40 d_Law_decode_7 rfl (Nat.le_of_ble_eq_true rfl) (fun _ _ hh => hcall 108 _ _ _ _ hh) (fun w3 h1 => ax_Woi (fun v2 => ?_) w3) (fun k4 a5 h1 => ?_)
  · refine ax_i2l B d_Law_decode_10 ?_
    refine ax_last (kd := 2) B (by decide) (by decide) rfl d_Law_decode_11 (fun h6 => ?_)
    refine ax_goto B 23 d_Law_decode_12 (by decide) ?_
    refine ax_iconst (v := 0) B d_Law_decode_23 (by decide) ?_
    exact ax_ireturn B d_Law_decode_24
  by_cases e0 : k4 = 0
  · subst e0
    refine Or.inr ⟨15, ax_cat20 HS rfl (by decide) wd_149 wc_0, ?_⟩
    refine ax_eq ((if_pos rfl)) ?_
    refine ax_astore (tv2 := [(5, ax_A (some a5)), (0, ax_A x0), (1, ax_I x1), (2, ax_I x2), (3, ax_I x3), (4, ax_A x4)]) B d_Law_decode_15 (by decide) rfl ?_
    refine ax_iconst (v := 1) B d_Law_decode_17 (by decide) ?_
    exact ax_ireturn B d_Law_decode_18
  by_cases e1 : k4 = 1
  · subst e1
    refine Or.inr ⟨19, ax_cat21 HS rfl (by decide) wd_228 wc_1 (by decide) wd_149 B.2.2.2.2.2.2.2.2.2.2, ?_⟩
    refine ax_eq ((if_neg (by decide)).trans (if_pos rfl)) ?_
    refine ax_astore (tv2 := [(5, ax_A (some a5)), (0, ax_A x0), (1, ax_I x1), (2, ax_I x2), (3, ax_I x3), (4, ax_A x4)]) B d_Law_decode_19 (by decide) rfl ?_
    refine ax_iconst (v := 2) B d_Law_decode_21 (by decide) ?_
    exact ax_ireturn B d_Law_decode_22
  · exact Or.inl ((if_neg e0).trans (if_neg e1))

theorem d_Law_out_0 : decode method_11_code 0 = .ok (.aload_n 2, 1) := by decide +kernel
theorem d_Law_out_1 : decode method_11_code 1 = .ok (.iconst 0, 1) := by decide +kernel
theorem d_Law_out_2 : decode method_11_code 2 = .ok (.aload_n 0, 1) := by decide +kernel
theorem d_Law_out_3 : decode method_11_code 3 = .ok (.iload_n 1, 1) := by decide +kernel
theorem d_Law_out_4 : decode method_11_code 4 = .ok (.invokevirtual 44, 3) := by decide +kernel
theorem d_Law_out_7 : decode method_11_code 7 = .ok (.i2l, 1) := by decide +kernel
theorem d_Law_out_8 : decode method_11_code 8 = .ok (.lastore, 1) := by decide +kernel
theorem d_Law_out_9 : decode method_11_code 9 = .ok (.goto 6, 3) := by decide +kernel
theorem d_Law_out_12 : decode method_11_code 12 = .ok (.astore_n 3, 1) := by decide +kernel
theorem d_Law_out_13 : decode method_11_code 13 = .ok (.iconst 1, 1) := by decide +kernel
theorem d_Law_out_14 : decode method_11_code 14 = .ok (.ireturn, 1) := by decide +kernel
theorem d_Law_out_15 : decode method_11_code 15 = .ok (.iconst 0, 1) := by decide +kernel
theorem d_Law_out_16 : decode method_11_code 16 = .ok (.ireturn, 1) := by decide +kernel
def Law_out_b (call : ax_Cf) (x0 : Option Nat) (x1 : Int32) (x2 : Option Nat) (h : ax_Hp) : ax_O :=
  ax_on h x0 8 <| ax_cx (call 142 [ax_A x0, ax_I x1] h) (fun w3 h1 => ax_oi w3 fun v2 =>
    (ax_st h1 x2 2 0 (ax_L (v2.toInt64))).bind fun h6 =>
    ax_ri 0 h6)
    (fun k4 a5 h1 =>
      if k4 = 2 then
      ax_ri 1 h1
      else
      none)
set_option maxHeartbeats 4000000 in
set_option maxRecDepth 20000 in
theorem Law_out_t {l : Launch} {G : ax_G} {d : Nat} {call : ax_Cf} (hcall : ax_Hc l G d call) (x0 : Option Nat) (x1 : Int32) (x2 : Option Nat) (h : ax_Hp) {r : ax_Rs} {h' : ax_Hp} (ho : Law_out_b call x0 x1 x2 h = some (r, h')) : ax_C l G (d + 1) y_Law_out (.codeWith y_Law_out method_11_code 4 (some (.int)) [(0, 9, 12, 47)]) [ax_A x0, ax_I x1, ax_A x2] h r h' := by
  refine ax_enterW (by decide) (Nat.le_of_ble_eq_true rfl) ho (fun p e s mi args below meth c B HS => ?_)
  have B : ax_B G p s mi meth c "SchemaDeskLaw" method_11_code 4 (some (.int)) := B
  show ax_W G p l e s mi args below meth c 4 (d + 1) h 0 [(0, ax_A x0), (1, ax_I x1), (2, ax_A x2)] [] h (Law_out_b call x0 x1 x2 h)
  unfold Law_out_b
  refine ax_aload_n B 2 d_Law_out_0 rfl rfl ?_
  refine ax_iconst (v := 0) B d_Law_out_1 (by decide) ?_
  refine ax_aload_n B 0 d_Law_out_2 rfl rfl ?_
  refine ax_iload_n B 1 d_Law_out_3 rfl rfl ?_
  refine ax_callVH (av := [ax_I x1]) (rest := [ax_I 0, ax_A x2]) B hm_Desk_out cl_Desk rfl wd_872 wd_873 lk_Law_44 d_Law_out_4 rfl (Nat.le_of_ble_eq_true rfl) (fun _ _ hh => hcall 142 _ _ _ _ hh) (fun w3 h1 => ax_Woi (fun v2 => ?_) w3) (fun k4 a5 h1 => ?_)
  · refine ax_i2l B d_Law_out_7 ?_
    refine ax_last (kd := 2) B (by decide) (by decide) rfl d_Law_out_8 (fun h6 => ?_)
    refine ax_goto B 15 d_Law_out_9 (by decide) ?_
    refine ax_iconst (v := 0) B d_Law_out_15 (by decide) ?_
    exact ax_ireturn B d_Law_out_16
  by_cases e0 : k4 = 2
  · subst e0
    refine Or.inr ⟨12, ax_cat1 HS rfl (by decide) wd_870 wc_2, ?_⟩
    refine ax_eq ((if_pos rfl)) ?_
    refine ax_astore_n (tv2 := [(3, ax_A (some a5)), (0, ax_A x0), (1, ax_I x1), (2, ax_A x2)]) B d_Law_out_12 rfl (by decide) rfl ?_
    refine ax_iconst (v := 1) B d_Law_out_13 (by decide) ?_
    exact ax_ireturn B d_Law_out_14
  · exact Or.inl (if_neg e0)
