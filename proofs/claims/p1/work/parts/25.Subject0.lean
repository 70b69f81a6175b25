theorem d_Subject_init_0 : decode prog_9_method_1_code 0 = .ok (.aload_n 0, 1) := by decide +kernel
theorem d_Subject_init_1 : decode prog_9_method_1_code 1 = .ok (.invokespecial 3, 3) := by decide +kernel
theorem d_Subject_init_4 : decode prog_9_method_1_code 4 = .ok (.aload_n 0, 1) := by decide +kernel
theorem d_Subject_init_5 : decode prog_9_method_1_code 5 = .ok (.bipush 6, 2) := by decide +kernel
theorem d_Subject_init_7 : decode prog_9_method_1_code 7 = .ok (.anewarray 9, 3) := by decide +kernel
theorem d_Subject_init_10 : decode prog_9_method_1_code 10 = .ok (.putfield 11, 3) := by decide +kernel
theorem d_Subject_init_13 : decode prog_9_method_1_code 13 = .ok (.return_, 1) := by decide +kernel
def Subject_init_b (call : ax_Cf) (x0 : Nat) (h : ax_Hp) : ax_O :=
  ax_nw (ax_na h 6 6 (ax_A none)) fun a1 h2 =>
  (ax_pf h2 (some x0) 6 0 (ax_A (some a1))).bind fun h3 =>
  ax_rv h3
set_option maxHeartbeats 4000000 in
set_option maxRecDepth 20000 in
theorem Subject_init_t {l : Launch} {G : ax_G} {d : Nat} {call : ax_Cf} (hcall : ax_Hc l G d call) (x0 : Nat) (h : ax_Hp) {r : ax_Rs} {h' : ax_Hp} (ho : Subject_init_b call x0 h = some (r, h')) : ax_C l G (d + 1) y_Subject_init (.code y_Subject_init prog_9_method_1_code 1 none) [ax_A (some x0)] h r h' := by
  refine ax_enter (by decide) (Nat.le_of_ble_eq_true rfl) ho (fun p e s mi args below meth c B E Nm => ?_)
  have B : ax_B G p s mi meth c "SchemaDesk$Subject" prog_9_method_1_code 1 none := B
  show ax_W G p l e s mi args below meth c 1 (d + 1) h 0 [(0, ax_A (some x0))] [] h (Subject_init_b call x0 h)
  unfold Subject_init_b
  refine ax_aload_n B 0 d_Subject_init_0 rfl rfl ?_
  refine ax_objinit B wd_70 wd_27 wd_objcode (Nat.le_of_ble_eq_true rfl) d_Subject_init_1 ?_
  refine ax_aload_n B 0 d_Subject_init_4 rfl rfl ?_
  refine ax_bipush (v := 6) B d_Subject_init_5 (by decide) ?_
  refine ax_anew (kd := 6) B (by decide) (by decide) rfl wd_71 wd_72 d_Subject_init_7 (fun a1 h2 => ?_)
  refine ax_putf (v := ax_A (some a1)) B cl_Subject (by decide) fk_Subject_11 (Or.inr ⟨wd_73, rfl, Nm, rfl⟩) (fun _ => ax_narR) (fun _ => ax_fitR) d_Subject_init_10 (fun h3 => ?_)
  exact ax_vreturn B d_Subject_init_13

theorem d_Subject_setMode_0 : decode prog_9_method_2_code 0 = .ok (.aload_n 0, 1) := by decide +kernel
theorem d_Subject_setMode_1 : decode prog_9_method_2_code 1 = .ok (.iload_n 1, 1) := by decide +kernel
theorem d_Subject_setMode_2 : decode prog_9_method_2_code 2 = .ok (.putfield 17, 3) := by decide +kernel
theorem d_Subject_setMode_5 : decode prog_9_method_2_code 5 = .ok (.return_, 1) := by decide +kernel
def Subject_setMode_b (call : ax_Cf) (x0 : Option Nat) (x1 : Int32) (h : ax_Hp) : ax_O :=
  (ax_pf h x0 6 2 (ax_I x1)).bind fun h1 =>
  ax_rv h1
set_option maxHeartbeats 4000000 in
set_option maxRecDepth 20000 in
theorem Subject_setMode_t {l : Launch} {G : ax_G} {d : Nat} {call : ax_Cf} (hcall : ax_Hc l G d call) (x0 : Option Nat) (x1 : Int32) (h : ax_Hp) {r : ax_Rs} {h' : ax_Hp} (ho : Subject_setMode_b call x0 x1 h = some (r, h')) : ax_C l G (d + 1) y_Subject_setMode (.code y_Subject_setMode prog_9_method_2_code 2 none) [ax_A x0, ax_I x1] h r h' := by
  refine ax_enter (by decide) (Nat.le_of_ble_eq_true rfl) ho (fun p e s mi args below meth c B E Nm => ?_)
  have B : ax_B G p s mi meth c "SchemaDesk$Subject" prog_9_method_2_code 2 none := B
  show ax_W G p l e s mi args below meth c 2 (d + 1) h 0 [(0, ax_A x0), (1, ax_I x1)] [] h (Subject_setMode_b call x0 x1 h)
  unfold Subject_setMode_b
  refine ax_aload_n B 0 d_Subject_setMode_0 rfl rfl ?_
  refine ax_iload_n B 1 d_Subject_setMode_1 rfl rfl ?_
  refine ax_putf (v := ax_I x1) B cl_Subject (by decide) fk_Subject_17 (Or.inl rfl) (fun _ => rfl) (fun _ => rfl) d_Subject_setMode_2 (fun h1 => ?_)
  exact ax_vreturn B d_Subject_setMode_5

theorem d_Subject_numberOf_0 : decode prog_9_method_5_code 0 = .ok (.iconst 0, 1) := by decide +kernel
theorem d_Subject_numberOf_1 : decode prog_9_method_5_code 1 = .ok (.istore_n 2, 1) := by decide +kernel
theorem d_Subject_numberOf_2 : decode prog_9_method_5_code 2 = .ok (.iload_n 2, 1) := by decide +kernel
theorem d_Subject_numberOf_3 : decode prog_9_method_5_code 3 = .ok (.aload_n 0, 1) := by decide +kernel
theorem d_Subject_numberOf_4 : decode prog_9_method_5_code 4 = .ok (.getfield 21, 3) := by decide +kernel
theorem d_Subject_numberOf_7 : decode prog_9_method_5_code 7 = .ok (.if_icmp .ge 30, 3) := by decide +kernel
theorem d_Subject_numberOf_10 : decode prog_9_method_5_code 10 = .ok (.aload_n 0, 1) := by decide +kernel
theorem d_Subject_numberOf_11 : decode prog_9_method_5_code 11 = .ok (.getfield 11, 3) := by decide +kernel
theorem d_Subject_numberOf_14 : decode prog_9_method_5_code 14 = .ok (.iload_n 2, 1) := by decide +kernel
theorem d_Subject_numberOf_15 : decode prog_9_method_5_code 15 = .ok (.aaload, 1) := by decide +kernel
theorem d_Subject_numberOf_16 : decode prog_9_method_5_code 16 = .ok (.astore_n 3, 1) := by decide +kernel
theorem d_Subject_numberOf_17 : decode prog_9_method_5_code 17 = .ok (.aload_n 3, 1) := by decide +kernel
theorem d_Subject_numberOf_18 : decode prog_9_method_5_code 18 = .ok (.ifnull 13, 3) := by decide +kernel
theorem d_Subject_numberOf_21 : decode prog_9_method_5_code 21 = .ok (.aload_n 3, 1) := by decide +kernel
theorem d_Subject_numberOf_22 : decode prog_9_method_5_code 22 = .ok (.aload_n 1, 1) := by decide +kernel
theorem d_Subject_numberOf_23 : decode prog_9_method_5_code 23 = .ok (.invokevirtual 24, 3) := by decide +kernel
theorem d_Subject_numberOf_26 : decode prog_9_method_5_code 26 = .ok (.ifCond .eq 5, 3) := by decide +kernel
theorem d_Subject_numberOf_29 : decode prog_9_method_5_code 29 = .ok (.iload_n 2, 1) := by decide +kernel
theorem d_Subject_numberOf_30 : decode prog_9_method_5_code 30 = .ok (.ireturn, 1) := by decide +kernel
theorem d_Subject_numberOf_31 : decode prog_9_method_5_code 31 = .ok (.iinc 2 1, 3) := by decide +kernel
theorem d_Subject_numberOf_34 : decode prog_9_method_5_code 34 = .ok (.goto (-32), 3) := by decide +kernel
theorem d_Subject_numberOf_37 : decode prog_9_method_5_code 37 = .ok (.iconst (-1), 1) := by decide +kernel
theorem d_Subject_numberOf_38 : decode prog_9_method_5_code 38 = .ok (.ireturn, 1) := by decide +kernel
def Subject_numberOf_bd2 (call : ax_Cf)  (k2 : Option Nat → Option Nat → Int32 → ax_Hp → ax_O) (x0 : Option Nat) (x1 : Option Nat) (x2 : Int32) (h : ax_Hp) : ax_O :=
  (ax_gi h x0 6 1).bind fun v1 =>
  if v1 ≤ x2 then
    ax_ri (-1) h
  else
    (ax_gr h x0 6 0).bind fun v2 =>
    (ax_ldr h v2 6 x2).bind fun v3 =>
    if v3 = none then
      k2 x0 x1 (x2 + 1) h
    else
      ax_on h v3 3 <| ax_ci (call 67 [ax_A v3, ax_A x1] h) fun v5 h4 =>
      if v5 = 0 then
        k2 x0 x1 (x2 + 1) h4
      else
        ax_ri x2 h4
def Subject_numberOf_lp2 (call : ax_Cf)  : Nat → Option Nat → Option Nat → Int32 → ax_Hp → ax_O
  | 0 => fun _ _ _ _ => none
  | n + 1 => Subject_numberOf_bd2 call  (Subject_numberOf_lp2 call  n)
set_option maxHeartbeats 4000000 in
set_option maxRecDepth 20000 in
theorem Subject_numberOf_lb2 {l : Launch} {G : ax_G} {d : Nat} {call : ax_Cf} (hcall : ax_Hc l G d call) {p : Program} {e : Env} {s : State} {mi : MethodId} {args : Array Value} {below : List Frame} {meth : Method} {c : Code} {h0 : ax_Hp} (B : ax_B G p s mi meth c "SchemaDesk$Subject" prog_9_method_5_code 4 (some (.int))) (E : c.exceptionTable.isEmpty = true) (Nm : meth.name = y_Subject_numberOf.name)   {k2 : Option Nat → Option Nat → Int32 → ax_Hp → ax_O} (hk2 : ∀ (x0 : Option Nat) (x1 : Option Nat) (x2 : Int32) (h : ax_Hp), ax_W G p l e s mi args below meth c 4 (d + 1) h0 2 [(0, ax_A x0), (1, ax_A x1), (2, ax_I x2)] [] h (k2 x0 x1 x2 h)) (x0 : Option Nat) (x1 : Option Nat) (x2 : Int32) (h : ax_Hp) : ax_W G p l e s mi args below meth c 4 (d + 1) h0 2 [(0, ax_A x0), (1, ax_A x1), (2, ax_I x2)] [] h (Subject_numberOf_bd2 call  k2 x0 x1 x2 h) := by
  unfold Subject_numberOf_bd2
  refine ax_iload_n B 2 d_Subject_numberOf_2 rfl rfl ?_
  refine ax_aload_n B 0 d_Subject_numberOf_3 rfl rfl ?_
  refine ax_getfi B cl_Subject (by decide) fk_Subject_21 d_Subject_numberOf_4 (fun v1 => ?_)
  refine ax_icmp_ge B 37 d_Subject_numberOf_7 (by decide) ?_ ?_
  · refine ax_iconst (v := (-1)) B d_Subject_numberOf_37 (by decide) ?_
    exact ax_ireturn B d_Subject_numberOf_38
  · refine ax_aload_n B 0 d_Subject_numberOf_10 rfl rfl ?_
    refine ax_getfr B cl_Subject (by decide) fk_Subject_11 d_Subject_numberOf_11 (fun v2 => ?_)
    refine ax_iload_n B 2 d_Subject_numberOf_14 rfl rfl ?_
    refine ax_aald (kd := 6) B (by decide) rfl d_Subject_numberOf_15 (fun v3 => ?_)
    refine ax_astore_n (tv2 := [(3, ax_A v3), (0, ax_A x0), (1, ax_A x1), (2, ax_I x2)]) B d_Subject_numberOf_16 rfl (by decide) rfl ?_
    refine ax_aload_n B 0 d_Subject_numberOf_17 rfl rfl ?_
    refine ax_ifnull B 31 d_Subject_numberOf_18 (by decide) ?_ ?_
    · refine ax_iinc (v := x2 + 1) (tv2 := [(2, ax_I (x2 + 1)), (3, ax_A v3), (0, ax_A x0), (1, ax_A x1)]) B 3 d_Subject_numberOf_31 rfl (congrArg (_ + ·) (by decide)) (by decide) rfl ?_
      refine ax_goto B 2 d_Subject_numberOf_34 (by decide) ?_
      refine ax_sub (tv2 := [(0, ax_A x0), (1, ax_A x1), (2, ax_I (x2 + 1))]) [2, 3, 0] rfl ?_
      exact hk2 x0 x1 (x2 + 1) h
    · refine ax_aload_n B 0 d_Subject_numberOf_21 rfl rfl ?_
      refine ax_aload_n B 2 d_Subject_numberOf_22 rfl rfl ?_
      refine ax_callVi (av := [ax_A x1]) (rest := []) B E hm_Schema_sameTextAs cl_Schema rfl wd_471 wd_472 lk_Subject_24 d_Subject_numberOf_23 rfl (Nat.le_of_ble_eq_true rfl) (fun _ _ hh => hcall 67 _ _ _ _ hh) (fun v5 h4 => ?_)
      refine ax_if_eq B 31 d_Subject_numberOf_26 (by decide) ?_ ?_
      · refine ax_iinc (v := x2 + 1) (tv2 := [(2, ax_I (x2 + 1)), (3, ax_A v3), (0, ax_A x0), (1, ax_A x1)]) B 3 d_Subject_numberOf_31 rfl (congrArg (_ + ·) (by decide)) (by decide) rfl ?_
        refine ax_goto B 2 d_Subject_numberOf_34 (by decide) ?_
        refine ax_sub (tv2 := [(0, ax_A x0), (1, ax_A x1), (2, ax_I (x2 + 1))]) [2, 3, 0] rfl ?_
        exact hk2 x0 x1 (x2 + 1) h4
      · refine ax_iload_n B 3 d_Subject_numberOf_29 rfl rfl ?_
        exact ax_ireturn B d_Subject_numberOf_30
theorem Subject_numberOf_lq2 {l : Launch} {G : ax_G} {d : Nat} {call : ax_Cf} (hcall : ax_Hc l G d call) {p : Program} {e : Env} {s : State} {mi : MethodId} {args : Array Value} {below : List Frame} {meth : Method} {c : Code} {h0 : ax_Hp} (B : ax_B G p s mi meth c "SchemaDesk$Subject" prog_9_method_5_code 4 (some (.int))) (E : c.exceptionTable.isEmpty = true) (Nm : meth.name = y_Subject_numberOf.name)   : ∀ (n : Nat) (x0 : Option Nat) (x1 : Option Nat) (x2 : Int32) (h : ax_Hp), ax_W G p l e s mi args below meth c 4 (d + 1) h0 2 [(0, ax_A x0), (1, ax_A x1), (2, ax_I x2)] [] h (Subject_numberOf_lp2 call  n x0 x1 x2 h)
  | 0, _, _, _, _ => ax_none
  | n + 1, x0, x1, x2, h => Subject_numberOf_lb2 hcall B E Nm   (Subject_numberOf_lq2 hcall B E Nm   n) x0 x1 x2 h
def Subject_numberOf_b (call : ax_Cf) (x0 : Option Nat) (x1 : Option Nat) (h : ax_Hp) : ax_O :=
  Subject_numberOf_lp2 call ax_fuel x0 x1 0 h
set_option maxHeartbeats 4000000 in
set_option maxRecDepth 20000 in
theorem Subject_numberOf_t {l : Launch} {G : ax_G} {d : Nat} {call : ax_Cf} (hcall : ax_Hc l G d call) (x0 : Option Nat) (x1 : Option Nat) (h : ax_Hp) {r : ax_Rs} {h' : ax_Hp} (ho : Subject_numberOf_b call x0 x1 h = some (r, h')) : ax_C l G (d + 1) y_Subject_numberOf (.code y_Subject_numberOf prog_9_method_5_code 4 (some (.int))) [ax_A x0, ax_A x1] h r h' := by
  refine ax_enter (by decide) (Nat.le_of_ble_eq_true rfl) ho (fun p e s mi args below meth c B E Nm => ?_)
  have B : ax_B G p s mi meth c "SchemaDesk$Subject" prog_9_method_5_code 4 (some (.int)) := B
  show ax_W G p l e s mi args below meth c 4 (d + 1) h 0 [(0, ax_A x0), (1, ax_A x1)] [] h (Subject_numberOf_b call x0 x1 h)
  unfold Subject_numberOf_b
  refine ax_iconst (v := 0) B d_Subject_numberOf_0 (by decide) ?_
  refine ax_istore_n (tv2 := [(2, ax_I 0), (0, ax_A x0), (1, ax_A x1)]) B d_Subject_numberOf_1 rfl (by decide) rfl ?_
  refine ax_sub (tv2 := [(0, ax_A x0), (1, ax_A x1), (2, ax_I 0)]) [1, 2, 0] rfl ?_
  exact Subject_numberOf_lq2 hcall B E Nm ax_fuel x0 x1 0 h

theorem d_Subject_admits_0 : decode prog_9_method_6_code 0 = .ok (.aload_n 0, 1) := by decide +kernel
theorem d_Subject_admits_1 : decode prog_9_method_6_code 1 = .ok (.getfield 21, 3) := by decide +kernel
theorem d_Subject_admits_4 : decode prog_9_method_6_code 4 = .ok (.bipush 6, 2) := by decide +kernel
theorem d_Subject_admits_6 : decode prog_9_method_6_code 6 = .ok (.if_icmp .lt 5, 3) := by decide +kernel
theorem d_Subject_admits_9 : decode prog_9_method_6_code 9 = .ok (.iconst 0, 1) := by decide +kernel
theorem d_Subject_admits_10 : decode prog_9_method_6_code 10 = .ok (.ireturn, 1) := by decide +kernel
theorem d_Subject_admits_11 : decode prog_9_method_6_code 11 = .ok (.aload_n 0, 1) := by decide +kernel
theorem d_Subject_admits_12 : decode prog_9_method_6_code 12 = .ok (.getfield 17, 3) := by decide +kernel
theorem d_Subject_admits_15 : decode prog_9_method_6_code 15 = .ok (.iconst 3, 1) := by decide +kernel
theorem d_Subject_admits_16 : decode prog_9_method_6_code 16 = .ok (.if_icmp .gt 7, 3) := by decide +kernel
theorem d_Subject_admits_19 : decode prog_9_method_6_code 19 = .ok (.iconst 1, 1) := by decide +kernel
theorem d_Subject_admits_20 : decode prog_9_method_6_code 20 = .ok (.goto 4, 3) := by decide +kernel
theorem d_Subject_admits_23 : decode prog_9_method_6_code 23 = .ok (.iconst 0, 1) := by decide +kernel
theorem d_Subject_admits_24 : decode prog_9_method_6_code 24 = .ok (.istore_n 2, 1) := by decide +kernel
theorem d_Subject_admits_25 : decode prog_9_method_6_code 25 = .ok (.iload_n 2, 1) := by decide +kernel
theorem d_Subject_admits_26 : decode prog_9_method_6_code 26 = .ok (.ifCond .eq 19, 3) := by decide +kernel
theorem d_Subject_admits_29 : decode prog_9_method_6_code 29 = .ok (.aload_n 0, 1) := by decide +kernel
theorem d_Subject_admits_30 : decode prog_9_method_6_code 30 = .ok (.getfield 21, 3) := by decide +kernel
theorem d_Subject_admits_33 : decode prog_9_method_6_code 33 = .ok (.ifCond .le 12, 3) := by decide +kernel
theorem d_Subject_admits_36 : decode prog_9_method_6_code 36 = .ok (.aload_n 0, 1) := by decide +kernel
theorem d_Subject_admits_37 : decode prog_9_method_6_code 37 = .ok (.getfield 21, 3) := by decide +kernel
theorem d_Subject_admits_40 : decode prog_9_method_6_code 40 = .ok (.iconst 1, 1) := by decide +kernel
theorem d_Subject_admits_41 : decode prog_9_method_6_code 41 = .ok (.isub, 1) := by decide +kernel
theorem d_Subject_admits_42 : decode prog_9_method_6_code 42 = .ok (.goto 4, 3) := by decide +kernel
theorem d_Subject_admits_45 : decode prog_9_method_6_code 45 = .ok (.iconst 0, 1) := by decide +kernel
theorem d_Subject_admits_46 : decode prog_9_method_6_code 46 = .ok (.istore_n 3, 1) := by decide +kernel
theorem d_Subject_admits_47 : decode prog_9_method_6_code 47 = .ok (.iload_n 3, 1) := by decide +kernel
theorem d_Subject_admits_48 : decode prog_9_method_6_code 48 = .ok (.istore 4, 2) := by decide +kernel
theorem d_Subject_admits_50 : decode prog_9_method_6_code 50 = .ok (.iload 4, 2) := by decide +kernel
theorem d_Subject_admits_52 : decode prog_9_method_6_code 52 = .ok (.aload_n 0, 1) := by decide +kernel
theorem d_Subject_admits_53 : decode prog_9_method_6_code 53 = .ok (.getfield 21, 3) := by decide +kernel
theorem d_Subject_admits_56 : decode prog_9_method_6_code 56 = .ok (.if_icmp .ge 35, 3) := by decide +kernel
theorem d_Subject_admits_59 : decode prog_9_method_6_code 59 = .ok (.aload_n 0, 1) := by decide +kernel
theorem d_Subject_admits_60 : decode prog_9_method_6_code 60 = .ok (.getfield 11, 3) := by decide +kernel
theorem d_Subject_admits_63 : decode prog_9_method_6_code 63 = .ok (.iload 4, 2) := by decide +kernel
theorem d_Subject_admits_65 : decode prog_9_method_6_code 65 = .ok (.aaload, 1) := by decide +kernel
theorem d_Subject_admits_66 : decode prog_9_method_6_code 66 = .ok (.astore 5, 2) := by decide +kernel
theorem d_Subject_admits_68 : decode prog_9_method_6_code 68 = .ok (.aload 5, 2) := by decide +kernel
theorem d_Subject_admits_70 : decode prog_9_method_6_code 70 = .ok (.ifnull 13, 3) := by decide +kernel
theorem d_Subject_admits_73 : decode prog_9_method_6_code 73 = .ok (.aload_n 0, 1) := by decide +kernel
theorem d_Subject_admits_74 : decode prog_9_method_6_code 74 = .ok (.aload_n 1, 1) := by decide +kernel
theorem d_Subject_admits_75 : decode prog_9_method_6_code 75 = .ok (.aload 5, 2) := by decide +kernel
theorem d_Subject_admits_77 : decode prog_9_method_6_code 77 = .ok (.invokevirtual 28, 3) := by decide +kernel
theorem d_Subject_admits_80 : decode prog_9_method_6_code 80 = .ok (.ifCond .ne 5, 3) := by decide +kernel
theorem d_Subject_admits_83 : decode prog_9_method_6_code 83 = .ok (.iconst 0, 1) := by decide +kernel
theorem d_Subject_admits_84 : decode prog_9_method_6_code 84 = .ok (.ireturn, 1) := by decide +kernel
theorem d_Subject_admits_85 : decode prog_9_method_6_code 85 = .ok (.iinc 4 1, 3) := by decide +kernel
theorem d_Subject_admits_88 : decode prog_9_method_6_code 88 = .ok (.goto (-38), 3) := by decide +kernel
theorem d_Subject_admits_91 : decode prog_9_method_6_code 91 = .ok (.iconst 1, 1) := by decide +kernel
theorem d_Subject_admits_92 : decode prog_9_method_6_code 92 = .ok (.ireturn, 1) := by decide +kernel
def Subject_admits_bd50 (call : ax_Cf)  (k50 : Option Nat → Option Nat → Int32 → ax_Hp → ax_O) (x0 : Option Nat) (x1 : Option Nat) (x4 : Int32) (h : ax_Hp) : ax_O :=
  (ax_gi h x0 6 1).bind fun v3 =>
  if v3 ≤ x4 then
    ax_rz 1 h
  else
    (ax_gr h x0 6 0).bind fun v4 =>
    (ax_ldr h v4 6 x4).bind fun v5 =>
    if v5 = none then
      ax_rz 0 h
    else
      ax_on h x0 6 <| ax_ci (call 70 [ax_A x0, ax_A x1, ax_A v5] h) fun v7 h6 =>
      if v7 = 0 then
        ax_rz 0 h6
      else
        k50 x0 x1 (x4 + 1) h6
def Subject_admits_lp50 (call : ax_Cf)  : Nat → Option Nat → Option Nat → Int32 → ax_Hp → ax_O
  | 0 => fun _ _ _ _ => none
  | n + 1 => Subject_admits_bd50 call  (Subject_admits_lp50 call  n)
set_option maxHeartbeats 4000000 in
set_option maxRecDepth 20000 in
theorem Subject_admits_lb50 {l : Launch} {G : ax_G} {d : Nat} {call : ax_Cf} (hcall : ax_Hc l G d call) {p : Program} {e : Env} {s : State} {mi : MethodId} {args : Array Value} {below : List Frame} {meth : Method} {c : Code} {h0 : ax_Hp} (B : ax_B G p s mi meth c "SchemaDesk$Subject" prog_9_method_6_code 6 (some (.boolean))) (E : c.exceptionTable.isEmpty = true) (Nm : meth.name = y_Subject_admits.name)   {k50 : Option Nat → Option Nat → Int32 → ax_Hp → ax_O} (hk50 : ∀ (x0 : Option Nat) (x1 : Option Nat) (x4 : Int32) (h : ax_Hp), ax_W G p l e s mi args below meth c 6 (d + 1) h0 50 [(0, ax_A x0), (1, ax_A x1), (4, ax_I x4)] [] h (k50 x0 x1 x4 h)) (x0 : Option Nat) (x1 : Option Nat) (x4 : Int32) (h : ax_Hp) : ax_W G p l e s mi args below meth c 6 (d + 1) h0 50 [(0, ax_A x0), (1, ax_A x1), (4, ax_I x4)] [] h (Subject_admits_bd50 call  k50 x0 x1 x4 h) := by
  unfold Subject_admits_bd50
  refine ax_iload B 2 d_Subject_admits_50 rfl ?_
  refine ax_aload_n B 0 d_Subject_admits_52 rfl rfl ?_
  refine ax_getfi B cl_Subject (by decide) fk_Subject_21 d_Subject_admits_53 (fun v3 => ?_)
  refine ax_icmp_ge B 91 d_Subject_admits_56 (by decide) ?_ ?_
  · refine ax_iconst (v := 1) B d_Subject_admits_91 (by decide) ?_
    exact ax_zreturn B d_Subject_admits_92
  · refine ax_aload_n B 0 d_Subject_admits_59 rfl rfl ?_
    refine ax_getfr B cl_Subject (by decide) fk_Subject_11 d_Subject_admits_60 (fun v4 => ?_)
    refine ax_iload B 2 d_Subject_admits_63 rfl ?_
    refine ax_aald (kd := 6) B (by decide) rfl d_Subject_admits_65 (fun v5 => ?_)
    refine ax_astore (tv2 := [(5, ax_A v5), (0, ax_A x0), (1, ax_A x1), (4, ax_I x4)]) B d_Subject_admits_66 (by decide) rfl ?_
    refine ax_aload B 0 d_Subject_admits_68 rfl ?_
    refine ax_ifnull B 83 d_Subject_admits_70 (by decide) ?_ ?_
    · refine ax_iconst (v := 0) B d_Subject_admits_83 (by decide) ?_
      exact ax_zreturn B d_Subject_admits_84
    · refine ax_aload_n B 1 d_Subject_admits_73 rfl rfl ?_
      refine ax_aload_n B 2 d_Subject_admits_74 rfl rfl ?_
      refine ax_aload B 0 d_Subject_admits_75 rfl ?_
      refine ax_callVi (av := [ax_A x1, ax_A v5]) (rest := []) B E hm_Subject_getOn cl_Subject rfl wd_485 wp_19 lk_Subject_28 d_Subject_admits_77 rfl (Nat.le_of_ble_eq_true rfl) (fun _ _ hh => hcall 70 _ _ _ _ hh) (fun v7 h6 => ?_)
      refine ax_if_ne B 85 d_Subject_admits_80 (by decide) ?_ ?_
      · refine ax_iinc (v := x4 + 1) (tv2 := [(4, ax_I (x4 + 1)), (5, ax_A v5), (0, ax_A x0), (1, ax_A x1)]) B 3 d_Subject_admits_85 rfl (congrArg (_ + ·) (by decide)) (by decide) rfl ?_
        refine ax_goto B 50 d_Subject_admits_88 (by decide) ?_
        refine ax_sub (tv2 := [(0, ax_A x0), (1, ax_A x1), (4, ax_I (x4 + 1))]) [2, 3, 0] rfl ?_
        exact hk50 x0 x1 (x4 + 1) h6
      · refine ax_iconst (v := 0) B d_Subject_admits_83 (by decide) ?_
        exact ax_zreturn B d_Subject_admits_84
theorem Subject_admits_lq50 {l : Launch} {G : ax_G} {d : Nat} {call : ax_Cf} (hcall : ax_Hc l G d call) {p : Program} {e : Env} {s : State} {mi : MethodId} {args : Array Value} {below : List Frame} {meth : Method} {c : Code} {h0 : ax_Hp} (B : ax_B G p s mi meth c "SchemaDesk$Subject" prog_9_method_6_code 6 (some (.boolean))) (E : c.exceptionTable.isEmpty = true) (Nm : meth.name = y_Subject_admits.name)   : ∀ (n : Nat) (x0 : Option Nat) (x1 : Option Nat) (x4 : Int32) (h : ax_Hp), ax_W G p l e s mi args below meth c 6 (d + 1) h0 50 [(0, ax_A x0), (1, ax_A x1), (4, ax_I x4)] [] h (Subject_admits_lp50 call  n x0 x1 x4 h)
  | 0, _, _, _, _ => ax_none
  | n + 1, x0, x1, x4, h => Subject_admits_lb50 hcall B E Nm   (Subject_admits_lq50 hcall B E Nm   n) x0 x1 x4 h
def Subject_admits_b (call : ax_Cf) (x0 : Option Nat) (x1 : Option Nat) (h : ax_Hp) : ax_O :=
  (ax_gi h x0 6 1).bind fun v1 =>
  if v1 < 6 then
    (ax_gi h x0 6 2).bind fun v2 =>
    if 3 < v2 then
      Subject_admits_lp50 call ax_fuel x0 x1 0 h
    else
      (ax_gi h x0 6 1).bind fun v8 =>
      if v8 ≤ 0 then
        Subject_admits_lp50 call ax_fuel x0 x1 0 h
      else
        (ax_gi h x0 6 1).bind fun v9 =>
        Subject_admits_lp50 call ax_fuel x0 x1 (v9 - 1) h
  else
    ax_rz 0 h
set_option maxHeartbeats 4000000 in
set_option maxRecDepth 20000 in
theorem Subject_admits_t {l : Launch} {G : ax_G} {d : Nat} {call : ax_Cf} (hcall : ax_Hc l G d call) (x0 : Option Nat) (x1 : Option Nat) (h : ax_Hp) {r : ax_Rs} {h' : ax_Hp} (ho : Subject_admits_b call x0 x1 h = some (r, h')) : ax_C l G (d + 1) y_Subject_admits (.code y_Subject_admits prog_9_method_6_code 6 (some (.boolean))) [ax_A x0, ax_A x1] h r h' := by
  refine ax_enter (by decide) (Nat.le_of_ble_eq_true rfl) ho (fun p e s mi args below meth c B E Nm => ?_)
  have B : ax_B G p s mi meth c "SchemaDesk$Subject" prog_9_method_6_code 6 (some (.boolean)) := B
  show ax_W G p l e s mi args below meth c 6 (d + 1) h 0 [(0, ax_A x0), (1, ax_A x1)] [] h (Subject_admits_b call x0 x1 h)
  unfold Subject_admits_b
  refine ax_aload_n B 0 d_Subject_admits_0 rfl rfl ?_
  refine ax_getfi B cl_Subject (by decide) fk_Subject_21 d_Subject_admits_1 (fun v1 => ?_)
  refine ax_bipush (v := 6) B d_Subject_admits_4 (by decide) ?_
  refine ax_icmp_lt B 11 d_Subject_admits_6 (by decide) ?_ ?_
  · refine ax_aload_n B 0 d_Subject_admits_11 rfl rfl ?_
    refine ax_getfi B cl_Subject (by decide) fk_Subject_17 d_Subject_admits_12 (fun v2 => ?_)
    refine ax_iconst (v := 3) B d_Subject_admits_15 (by decide) ?_
    refine ax_icmp_gt B 23 d_Subject_admits_16 (by decide) ?_ ?_
    · refine ax_iconst (v := 0) B d_Subject_admits_23 (by decide) ?_
      refine ax_istore_n (tv2 := [(2, ax_I 0), (0, ax_A x0), (1, ax_A x1)]) B d_Subject_admits_24 rfl (by decide) rfl ?_
      refine ax_iload_n B 0 d_Subject_admits_25 rfl rfl ?_
      refine ax_if_eq_T B 45 d_Subject_admits_26 (by decide) (by decide) ?_
      refine ax_iconst (v := 0) B d_Subject_admits_45 (by decide) ?_
      refine ax_istore_n (tv2 := [(3, ax_I 0), (2, ax_I 0), (0, ax_A x0), (1, ax_A x1)]) B d_Subject_admits_46 rfl (by decide) rfl ?_
      refine ax_iload_n B 0 d_Subject_admits_47 rfl rfl ?_
      refine ax_istore (tv2 := [(4, ax_I 0), (3, ax_I 0), (2, ax_I 0), (0, ax_A x0), (1, ax_A x1)]) B d_Subject_admits_48 (by decide) rfl ?_
      refine ax_sub (tv2 := [(0, ax_A x0), (1, ax_A x1), (4, ax_I 0)]) [3, 4, 0] rfl ?_
      exact Subject_admits_lq50 hcall B E Nm ax_fuel x0 x1 0 h
    · refine ax_iconst (v := 1) B d_Subject_admits_19 (by decide) ?_
      refine ax_goto B 24 d_Subject_admits_20 (by decide) ?_
      refine ax_istore_n (tv2 := [(2, ax_I 1), (0, ax_A x0), (1, ax_A x1)]) B d_Subject_admits_24 rfl (by decide) rfl ?_
      refine ax_iload_n B 0 d_Subject_admits_25 rfl rfl ?_
      refine ax_if_eq_F B 45 d_Subject_admits_26 (by decide) (by decide) ?_
      refine ax_aload_n B 1 d_Subject_admits_29 rfl rfl ?_
      refine ax_getfi B cl_Subject (by decide) fk_Subject_21 d_Subject_admits_30 (fun v8 => ?_)
      refine ax_if_le B 45 d_Subject_admits_33 (by decide) ?_ ?_
      · refine ax_iconst (v := 0) B d_Subject_admits_45 (by decide) ?_
        refine ax_istore_n (tv2 := [(3, ax_I 0), (2, ax_I 1), (0, ax_A x0), (1, ax_A x1)]) B d_Subject_admits_46 rfl (by decide) rfl ?_
        refine ax_iload_n B 0 d_Subject_admits_47 rfl rfl ?_
        refine ax_istore (tv2 := [(4, ax_I 0), (3, ax_I 0), (2, ax_I 1), (0, ax_A x0), (1, ax_A x1)]) B d_Subject_admits_48 (by decide) rfl ?_
        refine ax_sub (tv2 := [(0, ax_A x0), (1, ax_A x1), (4, ax_I 0)]) [3, 4, 0] rfl ?_
        exact Subject_admits_lq50 hcall B E Nm ax_fuel x0 x1 0 h
      · refine ax_aload_n B 1 d_Subject_admits_36 rfl rfl ?_
        refine ax_getfi B cl_Subject (by decide) fk_Subject_21 d_Subject_admits_37 (fun v9 => ?_)
        refine ax_iconst (v := 1) B d_Subject_admits_40 (by decide) ?_
        refine ax_isub B d_Subject_admits_41 ?_
        refine ax_goto B 46 d_Subject_admits_42 (by decide) ?_
        refine ax_istore_n (tv2 := [(3, ax_I (v9 - 1)), (2, ax_I 1), (0, ax_A x0), (1, ax_A x1)]) B d_Subject_admits_46 rfl (by decide) rfl ?_
        refine ax_iload_n B 0 d_Subject_admits_47 rfl rfl ?_
        refine ax_istore (tv2 := [(4, ax_I (v9 - 1)), (3, ax_I (v9 - 1)), (2, ax_I 1), (0, ax_A x0), (1, ax_A x1)]) B d_Subject_admits_48 (by decide) rfl ?_
        refine ax_sub (tv2 := [(0, ax_A x0), (1, ax_A x1), (4, ax_I (v9 - 1))]) [3, 4, 0] rfl ?_
        exact Subject_admits_lq50 hcall B E Nm ax_fuel x0 x1 (v9 - 1) h
  · refine ax_iconst (v := 0) B d_Subject_admits_9 (by decide) ?_
    exact ax_zreturn B d_Subject_admits_10

theorem d_Subject_getOn_0 : decode prog_9_method_8_code 0 = .ok (.aload_n 0, 1) := by decide +kernel
theorem d_Subject_getOn_1 : decode prog_9_method_8_code 1 = .ok (.getfield 17, 3) := by decide +kernel
theorem d_Subject_getOn_4 : decode prog_9_method_8_code 4 = .ok (.iconst 3, 1) := by decide +kernel
theorem d_Subject_getOn_5 : decode prog_9_method_8_code 5 = .ok (.if_icmp .gt 10, 3) := by decide +kernel
theorem d_Subject_getOn_8 : decode prog_9_method_8_code 8 = .ok (.aload_n 0, 1) := by decide +kernel
theorem d_Subject_getOn_9 : decode prog_9_method_8_code 9 = .ok (.getfield 17, 3) := by decide +kernel
theorem d_Subject_getOn_12 : decode prog_9_method_8_code 12 = .ok (.goto 9, 3) := by decide +kernel
theorem d_Subject_getOn_15 : decode prog_9_method_8_code 15 = .ok (.aload_n 0, 1) := by decide +kernel
theorem d_Subject_getOn_16 : decode prog_9_method_8_code 16 = .ok (.getfield 17, 3) := by decide +kernel
theorem d_Subject_getOn_19 : decode prog_9_method_8_code 19 = .ok (.iconst 3, 1) := by decide +kernel
theorem d_Subject_getOn_20 : decode prog_9_method_8_code 20 = .ok (.isub, 1) := by decide +kernel
theorem d_Subject_getOn_21 : decode prog_9_method_8_code 21 = .ok (.istore_n 3, 1) := by decide +kernel
theorem d_Subject_getOn_22 : decode prog_9_method_8_code 22 = .ok (.iload_n 3, 1) := by decide +kernel
theorem d_Subject_getOn_23 : decode prog_9_method_8_code 23 = .ok (.iconst 1, 1) := by decide +kernel
theorem d_Subject_getOn_24 : decode prog_9_method_8_code 24 = .ok (.if_icmp .eq 8, 3) := by decide +kernel
theorem d_Subject_getOn_27 : decode prog_9_method_8_code 27 = .ok (.iload_n 3, 1) := by decide +kernel
theorem d_Subject_getOn_28 : decode prog_9_method_8_code 28 = .ok (.iconst 3, 1) := by decide +kernel
theorem d_Subject_getOn_29 : decode prog_9_method_8_code 29 = .ok (.if_icmp .ne 7, 3) := by decide +kernel
theorem d_Subject_getOn_32 : decode prog_9_method_8_code 32 = .ok (.iconst 1, 1) := by decide +kernel
theorem d_Subject_getOn_33 : decode prog_9_method_8_code 33 = .ok (.goto 4, 3) := by decide +kernel
theorem d_Subject_getOn_36 : decode prog_9_method_8_code 36 = .ok (.iconst 0, 1) := by decide +kernel
theorem d_Subject_getOn_37 : decode prog_9_method_8_code 37 = .ok (.istore 4, 2) := by decide +kernel
theorem d_Subject_getOn_39 : decode prog_9_method_8_code 39 = .ok (.iload_n 3, 1) := by decide +kernel
theorem d_Subject_getOn_40 : decode prog_9_method_8_code 40 = .ok (.iconst 2, 1) := by decide +kernel
theorem d_Subject_getOn_41 : decode prog_9_method_8_code 41 = .ok (.if_icmp .eq 8, 3) := by decide +kernel
theorem d_Subject_getOn_44 : decode prog_9_method_8_code 44 = .ok (.iload_n 3, 1) := by decide +kernel
theorem d_Subject_getOn_45 : decode prog_9_method_8_code 45 = .ok (.iconst 3, 1) := by decide +kernel
theorem d_Subject_getOn_46 : decode prog_9_method_8_code 46 = .ok (.if_icmp .ne 7, 3) := by decide +kernel
theorem d_Subject_getOn_49 : decode prog_9_method_8_code 49 = .ok (.iconst 1, 1) := by decide +kernel
theorem d_Subject_getOn_50 : decode prog_9_method_8_code 50 = .ok (.goto 4, 3) := by decide +kernel
theorem d_Subject_getOn_53 : decode prog_9_method_8_code 53 = .ok (.iconst 0, 1) := by decide +kernel
theorem d_Subject_getOn_54 : decode prog_9_method_8_code 54 = .ok (.istore 5, 2) := by decide +kernel
theorem d_Subject_getOn_56 : decode prog_9_method_8_code 56 = .ok (.iload 4, 2) := by decide +kernel
theorem d_Subject_getOn_58 : decode prog_9_method_8_code 58 = .ok (.ifCond .eq 11, 3) := by decide +kernel
theorem d_Subject_getOn_61 : decode prog_9_method_8_code 61 = .ok (.aload_n 1, 1) := by decide +kernel
theorem d_Subject_getOn_62 : decode prog_9_method_8_code 62 = .ok (.aload_n 2, 1) := by decide +kernel
theorem d_Subject_getOn_63 : decode prog_9_method_8_code 63 = .ok (.invokestatic 32, 3) := by decide +kernel
theorem d_Subject_getOn_66 : decode prog_9_method_8_code 66 = .ok (.ifCond .eq 20, 3) := by decide +kernel
theorem d_Subject_getOn_69 : decode prog_9_method_8_code 69 = .ok (.iload 5, 2) := by decide +kernel
theorem d_Subject_getOn_71 : decode prog_9_method_8_code 71 = .ok (.ifCond .eq 11, 3) := by decide +kernel
theorem d_Subject_getOn_74 : decode prog_9_method_8_code 74 = .ok (.aload_n 2, 1) := by decide +kernel
theorem d_Subject_getOn_75 : decode prog_9_method_8_code 75 = .ok (.aload_n 1, 1) := by decide +kernel
theorem d_Subject_getOn_76 : decode prog_9_method_8_code 76 = .ok (.invokestatic 32, 3) := by decide +kernel
theorem d_Subject_getOn_79 : decode prog_9_method_8_code 79 = .ok (.ifCond .eq 7, 3) := by decide +kernel
theorem d_Subject_getOn_82 : decode prog_9_method_8_code 82 = .ok (.iconst 1, 1) := by decide +kernel
theorem d_Subject_getOn_83 : decode prog_9_method_8_code 83 = .ok (.goto 4, 3) := by decide +kernel
theorem d_Subject_getOn_86 : decode prog_9_method_8_code 86 = .ok (.iconst 0, 1) := by decide +kernel
theorem d_Subject_getOn_87 : decode prog_9_method_8_code 87 = .ok (.ireturn, 1) := by decide +kernel
def Subject_getOn_jn82 (call : ax_Cf)   (h : ax_Hp) : ax_O :=
  ax_rz 1 h
set_option maxHeartbeats 4000000 in
set_option maxRecDepth 20000 in
theorem Subject_getOn_jq82 {l : Launch} {G : ax_G} {d : Nat} {call : ax_Cf} (hcall : ax_Hc l G d call) {p : Program} {e : Env} {s : State} {mi : MethodId} {args : Array Value} {below : List Frame} {meth : Method} {c : Code} {h0 : ax_Hp} (B : ax_B G p s mi meth c "SchemaDesk$Subject" prog_9_method_8_code 6 (some (.boolean))) (E : c.exceptionTable.isEmpty = true) (Nm : meth.name = y_Subject_getOn.name)    (h : ax_Hp) : ax_W G p l e s mi args below meth c 6 (d + 1) h0 82 [] [] h (Subject_getOn_jn82 call   h) := by
  unfold Subject_getOn_jn82
  refine ax_iconst (v := 1) B d_Subject_getOn_82 (by decide) ?_
  refine ax_goto B 87 d_Subject_getOn_83 (by decide) ?_
  exact ax_zreturn B d_Subject_getOn_87
def Subject_getOn_jn69 (call : ax_Cf)  (x1 : Option Nat) (x2 : Option Nat) (x5 : Int32) (h : ax_Hp) : ax_O :=
  if x5 = 0 then
    Subject_getOn_jn82 call h
  else
    ax_ci (call 71 [ax_A x2, ax_A x1] h) fun v4 h3 =>
    if v4 = 0 then
      ax_rz 0 h3
    else
      Subject_getOn_jn82 call h3
set_option maxHeartbeats 4000000 in
set_option maxRecDepth 20000 in
theorem Subject_getOn_jq69 {l : Launch} {G : ax_G} {d : Nat} {call : ax_Cf} (hcall : ax_Hc l G d call) {p : Program} {e : Env} {s : State} {mi : MethodId} {args : Array Value} {below : List Frame} {meth : Method} {c : Code} {h0 : ax_Hp} (B : ax_B G p s mi meth c "SchemaDesk$Subject" prog_9_method_8_code 6 (some (.boolean))) (E : c.exceptionTable.isEmpty = true) (Nm : meth.name = y_Subject_getOn.name)   (x1 : Option Nat) (x2 : Option Nat) (x5 : Int32) (h : ax_Hp) : ax_W G p l e s mi args below meth c 6 (d + 1) h0 69 [(1, ax_A x1), (2, ax_A x2), (5, ax_I x5)] [] h (Subject_getOn_jn69 call  x1 x2 x5 h) := by
  unfold Subject_getOn_jn69
  refine ax_iload B 2 d_Subject_getOn_69 rfl ?_
  refine ax_if_eq B 82 d_Subject_getOn_71 (by decide) ?_ ?_
  · refine ax_sub (tv2 := []) [] rfl ?_
    exact Subject_getOn_jq82 hcall B E Nm h
  · refine ax_aload_n B 1 d_Subject_getOn_74 rfl rfl ?_
    refine ax_aload_n B 0 d_Subject_getOn_75 rfl rfl ?_
    refine ax_callSi (av := [ax_A x2, ax_A x1]) (rest := []) B E hm_Compatibility_canRead wd_488 lk_Subject_32 d_Subject_getOn_76 rfl (Nat.le_of_ble_eq_true rfl) (fun _ _ hh => hcall 71 _ _ _ _ hh) (fun v4 h3 => ?_)
    refine ax_if_eq B 86 d_Subject_getOn_79 (by decide) ?_ ?_
    · refine ax_iconst (v := 0) B d_Subject_getOn_86 (by decide) ?_
      exact ax_zreturn B d_Subject_getOn_87
    · refine ax_sub (tv2 := []) [] rfl ?_
      exact Subject_getOn_jq82 hcall B E Nm h3
def Subject_getOn_jn54 (call : ax_Cf)  (x1 : Option Nat) (x2 : Option Nat) (x4 : Int32) (s0 : Int32) (h : ax_Hp) : ax_O :=
  if x4 = 0 then
    Subject_getOn_jn69 call x1 x2 s0 h
  else
    ax_ci (call 71 [ax_A x1, ax_A x2] h) fun v6 h5 =>
    if v6 = 0 then
      ax_rz 0 h5
    else
      Subject_getOn_jn69 call x1 x2 s0 h5
set_option maxHeartbeats 4000000 in
set_option maxRecDepth 20000 in
theorem Subject_getOn_jq54 {l : Launch} {G : ax_G} {d : Nat} {call : ax_Cf} (hcall : ax_Hc l G d call) {p : Program} {e : Env} {s : State} {mi : MethodId} {args : Array Value} {below : List Frame} {meth : Method} {c : Code} {h0 : ax_Hp} (B : ax_B G p s mi meth c "SchemaDesk$Subject" prog_9_method_8_code 6 (some (.boolean))) (E : c.exceptionTable.isEmpty = true) (Nm : meth.name = y_Subject_getOn.name)   (x1 : Option Nat) (x2 : Option Nat) (x4 : Int32) (s0 : Int32) (h : ax_Hp) : ax_W G p l e s mi args below meth c 6 (d + 1) h0 54 [(1, ax_A x1), (2, ax_A x2), (4, ax_I x4)] [ax_I s0] h (Subject_getOn_jn54 call  x1 x2 x4 s0 h) := by
  unfold Subject_getOn_jn54
  refine ax_istore (tv2 := [(5, ax_I s0), (1, ax_A x1), (2, ax_A x2), (4, ax_I x4)]) B d_Subject_getOn_54 (by decide) rfl ?_
  refine ax_iload B 3 d_Subject_getOn_56 rfl ?_
  refine ax_if_eq B 69 d_Subject_getOn_58 (by decide) ?_ ?_
  · refine ax_sub (tv2 := [(1, ax_A x1), (2, ax_A x2), (5, ax_I s0)]) [1, 2, 0] rfl ?_
    exact Subject_getOn_jq69 hcall B E Nm x1 x2 s0 h
  · refine ax_aload_n B 1 d_Subject_getOn_61 rfl rfl ?_
    refine ax_aload_n B 2 d_Subject_getOn_62 rfl rfl ?_
    refine ax_callSi (av := [ax_A x1, ax_A x2]) (rest := []) B E hm_Compatibility_canRead wd_488 lk_Subject_32 d_Subject_getOn_63 rfl (Nat.le_of_ble_eq_true rfl) (fun _ _ hh => hcall 71 _ _ _ _ hh) (fun v6 h5 => ?_)
    refine ax_if_eq B 86 d_Subject_getOn_66 (by decide) ?_ ?_
    · refine ax_iconst (v := 0) B d_Subject_getOn_86 (by decide) ?_
      exact ax_zreturn B d_Subject_getOn_87
    · refine ax_sub (tv2 := [(1, ax_A x1), (2, ax_A x2), (5, ax_I s0)]) [1, 2, 0] rfl ?_
      exact Subject_getOn_jq69 hcall B E Nm x1 x2 s0 h5
def Subject_getOn_jn49 (call : ax_Cf)  (x1 : Option Nat) (x2 : Option Nat) (x4 : Int32) (h : ax_Hp) : ax_O :=
  Subject_getOn_jn54 call x1 x2 x4 1 h
set_option maxHeartbeats 4000000 in
set_option maxRecDepth 20000 in
theorem Subject_getOn_jq49 {l : Launch} {G : ax_G} {d : Nat} {call : ax_Cf} (hcall : ax_Hc l G d call) {p : Program} {e : Env} {s : State} {mi : MethodId} {args : Array Value} {below : List Frame} {meth : Method} {c : Code} {h0 : ax_Hp} (B : ax_B G p s mi meth c "SchemaDesk$Subject" prog_9_method_8_code 6 (some (.boolean))) (E : c.exceptionTable.isEmpty = true) (Nm : meth.name = y_Subject_getOn.name)   (x1 : Option Nat) (x2 : Option Nat) (x4 : Int32) (h : ax_Hp) : ax_W G p l e s mi args below meth c 6 (d + 1) h0 49 [(1, ax_A x1), (2, ax_A x2), (4, ax_I x4)] [] h (Subject_getOn_jn49 call  x1 x2 x4 h) := by
  unfold Subject_getOn_jn49
  refine ax_iconst (v := 1) B d_Subject_getOn_49 (by decide) ?_
  refine ax_goto B 54 d_Subject_getOn_50 (by decide) ?_
  refine ax_sub (tv2 := [(1, ax_A x1), (2, ax_A x2), (4, ax_I x4)]) [0, 1, 2] rfl ?_
  exact Subject_getOn_jq54 hcall B E Nm x1 x2 x4 1 h
def Subject_getOn_jn37 (call : ax_Cf)  (x1 : Option Nat) (x2 : Option Nat) (x3 : Int32) (s0 : Int32) (h : ax_Hp) : ax_O :=
  if x3 = 2 then
    Subject_getOn_jn49 call x1 x2 s0 h
  else
    if x3 = 3 then
      Subject_getOn_jn49 call x1 x2 s0 h
    else
      Subject_getOn_jn54 call x1 x2 s0 0 h
set_option maxHeartbeats 4000000 in
set_option maxRecDepth 20000 in
theorem Subject_getOn_jq37 {l : Launch} {G : ax_G} {d : Nat} {call : ax_Cf} (hcall : ax_Hc l G d call) {p : Program} {e : Env} {s : State} {mi : MethodId} {args : Array Value} {below : List Frame} {meth : Method} {c : Code} {h0 : ax_Hp} (B : ax_B G p s mi meth c "SchemaDesk$Subject" prog_9_method_8_code 6 (some (.boolean))) (E : c.exceptionTable.isEmpty = true) (Nm : meth.name = y_Subject_getOn.name)   (x1 : Option Nat) (x2 : Option Nat) (x3 : Int32) (s0 : Int32) (h : ax_Hp) : ax_W G p l e s mi args below meth c 6 (d + 1) h0 37 [(1, ax_A x1), (2, ax_A x2), (3, ax_I x3)] [ax_I s0] h (Subject_getOn_jn37 call  x1 x2 x3 s0 h) := by
  unfold Subject_getOn_jn37
  refine ax_istore (tv2 := [(4, ax_I s0), (1, ax_A x1), (2, ax_A x2), (3, ax_I x3)]) B d_Subject_getOn_37 (by decide) rfl ?_
  refine ax_iload_n B 3 d_Subject_getOn_39 rfl rfl ?_
  refine ax_iconst (v := 2) B d_Subject_getOn_40 (by decide) ?_
  refine ax_icmp_eq B 49 d_Subject_getOn_41 (by decide) ?_ ?_
  · refine ax_sub (tv2 := [(1, ax_A x1), (2, ax_A x2), (4, ax_I s0)]) [1, 2, 0] rfl ?_
    exact Subject_getOn_jq49 hcall B E Nm x1 x2 s0 h
  · refine ax_iload_n B 3 d_Subject_getOn_44 rfl rfl ?_
    refine ax_iconst (v := 3) B d_Subject_getOn_45 (by decide) ?_
    refine ax_icmp_ne B 53 d_Subject_getOn_46 (by decide) ?_ ?_
    · refine ax_iconst (v := 0) B d_Subject_getOn_53 (by decide) ?_
      refine ax_sub (tv2 := [(1, ax_A x1), (2, ax_A x2), (4, ax_I s0)]) [1, 2, 0] rfl ?_
      exact Subject_getOn_jq54 hcall B E Nm x1 x2 s0 0 h
    · refine ax_sub (tv2 := [(1, ax_A x1), (2, ax_A x2), (4, ax_I s0)]) [1, 2, 0] rfl ?_
      exact Subject_getOn_jq49 hcall B E Nm x1 x2 s0 h
def Subject_getOn_jn32 (call : ax_Cf)  (x1 : Option Nat) (x2 : Option Nat) (x3 : Int32) (h : ax_Hp) : ax_O :=
  Subject_getOn_jn37 call x1 x2 x3 1 h
set_option maxHeartbeats 4000000 in
set_option maxRecDepth 20000 in
theorem Subject_getOn_jq32 {l : Launch} {G : ax_G} {d : Nat} {call : ax_Cf} (hcall : ax_Hc l G d call) {p : Program} {e : Env} {s : State} {mi : MethodId} {args : Array Value} {below : List Frame} {meth : Method} {c : Code} {h0 : ax_Hp} (B : ax_B G p s mi meth c "SchemaDesk$Subject" prog_9_method_8_code 6 (some (.boolean))) (E : c.exceptionTable.isEmpty = true) (Nm : meth.name = y_Subject_getOn.name)   (x1 : Option Nat) (x2 : Option Nat) (x3 : Int32) (h : ax_Hp) : ax_W G p l e s mi args below meth c 6 (d + 1) h0 32 [(1, ax_A x1), (2, ax_A x2), (3, ax_I x3)] [] h (Subject_getOn_jn32 call  x1 x2 x3 h) := by
  unfold Subject_getOn_jn32
  refine ax_iconst (v := 1) B d_Subject_getOn_32 (by decide) ?_
  refine ax_goto B 37 d_Subject_getOn_33 (by decide) ?_
  refine ax_sub (tv2 := [(1, ax_A x1), (2, ax_A x2), (3, ax_I x3)]) [0, 1, 2] rfl ?_
  exact Subject_getOn_jq37 hcall B E Nm x1 x2 x3 1 h
def Subject_getOn_jn21 (call : ax_Cf)  (x1 : Option Nat) (x2 : Option Nat) (s0 : Int32) (h : ax_Hp) : ax_O :=
  if s0 = 1 then
    Subject_getOn_jn32 call x1 x2 s0 h
  else
    if s0 = 3 then
      Subject_getOn_jn32 call x1 x2 s0 h
    else
      Subject_getOn_jn37 call x1 x2 s0 0 h
set_option maxHeartbeats 4000000 in
set_option maxRecDepth 20000 in
theorem Subject_getOn_jq21 {l : Launch} {G : ax_G} {d : Nat} {call : ax_Cf} (hcall : ax_Hc l G d call) {p : Program} {e : Env} {s : State} {mi : MethodId} {args : Array Value} {below : List Frame} {meth : Method} {c : Code} {h0 : ax_Hp} (B : ax_B G p s mi meth c "SchemaDesk$Subject" prog_9_method_8_code 6 (some (.boolean))) (E : c.exceptionTable.isEmpty = true) (Nm : meth.name = y_Subject_getOn.name)   (x1 : Option Nat) (x2 : Option Nat) (s0 : Int32) (h : ax_Hp) : ax_W G p l e s mi args below meth c 6 (d + 1) h0 21 [(1, ax_A x1), (2, ax_A x2)] [ax_I s0] h (Subject_getOn_jn21 call  x1 x2 s0 h) := by
  unfold Subject_getOn_jn21
  refine ax_istore_n (tv2 := [(3, ax_I s0), (1, ax_A x1), (2, ax_A x2)]) B d_Subject_getOn_21 rfl (by decide) rfl ?_
  refine ax_iload_n B 0 d_Subject_getOn_22 rfl rfl ?_
  refine ax_iconst (v := 1) B d_Subject_getOn_23 (by decide) ?_
  refine ax_icmp_eq B 32 d_Subject_getOn_24 (by decide) ?_ ?_
  · refine ax_sub (tv2 := [(1, ax_A x1), (2, ax_A x2), (3, ax_I s0)]) [1, 2, 0] rfl ?_
    exact Subject_getOn_jq32 hcall B E Nm x1 x2 s0 h
  · refine ax_iload_n B 0 d_Subject_getOn_27 rfl rfl ?_
    refine ax_iconst (v := 3) B d_Subject_getOn_28 (by decide) ?_
    refine ax_icmp_ne B 36 d_Subject_getOn_29 (by decide) ?_ ?_
    · refine ax_iconst (v := 0) B d_Subject_getOn_36 (by decide) ?_
      refine ax_sub (tv2 := [(1, ax_A x1), (2, ax_A x2), (3, ax_I s0)]) [1, 2, 0] rfl ?_
      exact Subject_getOn_jq37 hcall B E Nm x1 x2 s0 0 h
    · refine ax_sub (tv2 := [(1, ax_A x1), (2, ax_A x2), (3, ax_I s0)]) [1, 2, 0] rfl ?_
      exact Subject_getOn_jq32 hcall B E Nm x1 x2 s0 h
def Subject_getOn_b (call : ax_Cf) (x0 : Option Nat) (x1 : Option Nat) (x2 : Option Nat) (h : ax_Hp) : ax_O :=
  (ax_gi h x0 6 2).bind fun v1 =>
  if 3 < v1 then
    (ax_gi h x0 6 2).bind fun v2 =>
    Subject_getOn_jn21 call x1 x2 (v2 - 3) h
  else
    (ax_gi h x0 6 2).bind fun v7 =>
    Subject_getOn_jn21 call x1 x2 v7 h
set_option maxHeartbeats 4000000 in
set_option maxRecDepth 20000 in
theorem Subject_getOn_t {l : Launch} {G : ax_G} {d : Nat} {call : ax_Cf} (hcall : ax_Hc l G d call) (x0 : Option Nat) (x1 : Option Nat) (x2 : Option Nat) (h : ax_Hp) {r : ax_Rs} {h' : ax_Hp} (ho : Subject_getOn_b call x0 x1 x2 h = some (r, h')) : ax_C l G (d + 1) y_Subject_getOn (.code y_Subject_getOn prog_9_method_8_code 6 (some (.boolean))) [ax_A x0, ax_A x1, ax_A x2] h r h' := by
  refine ax_enter (by decide) (Nat.le_of_ble_eq_true rfl) ho (fun p e s mi args below meth c B E Nm => ?_)
  have B : ax_B G p s mi meth c "SchemaDesk$Subject" prog_9_method_8_code 6 (some (.boolean)) := B
  show ax_W G p l e s mi args below meth c 6 (d + 1) h 0 [(0, ax_A x0), (1, ax_A x1), (2, ax_A x2)] [] h (Subject_getOn_b call x0 x1 x2 h)
  unfold Subject_getOn_b
  refine ax_aload_n B 0 d_Subject_getOn_0 rfl rfl ?_
  refine ax_getfi B cl_Subject (by decide) fk_Subject_17 d_Subject_getOn_1 (fun v1 => ?_)
  refine ax_iconst (v := 3) B d_Subject_getOn_4 (by decide) ?_
  refine ax_icmp_gt B 15 d_Subject_getOn_5 (by decide) ?_ ?_
  · refine ax_aload_n B 0 d_Subject_getOn_15 rfl rfl ?_
    refine ax_getfi B cl_Subject (by decide) fk_Subject_17 d_Subject_getOn_16 (fun v2 => ?_)
    refine ax_iconst (v := 3) B d_Subject_getOn_19 (by decide) ?_
    refine ax_isub B d_Subject_getOn_20 ?_
    refine ax_sub (tv2 := [(1, ax_A x1), (2, ax_A x2)]) [1, 2] rfl ?_
    exact Subject_getOn_jq21 hcall B E Nm x1 x2 (v2 - 3) h
  · refine ax_aload_n B 0 d_Subject_getOn_8 rfl rfl ?_
    refine ax_getfi B cl_Subject (by decide) fk_Subject_17 d_Subject_getOn_9 (fun v7 => ?_)
    refine ax_goto B 21 d_Subject_getOn_12 (by decide) ?_
    refine ax_sub (tv2 := [(1, ax_A x1), (2, ax_A x2)]) [1, 2] rfl ?_
    exact Subject_getOn_jq21 hcall B E Nm x1 x2 v7 h

theorem d_Subject_add_0 : decode prog_9_method_7_code 0 = .ok (.aload_n 0, 1) := by decide +kernel
theorem d_Subject_add_1 : decode prog_9_method_7_code 1 = .ok (.getfield 21, 3) := by decide +kernel
theorem d_Subject_add_4 : decode prog_9_method_7_code 4 = .ok (.bipush 6, 2) := by decide +kernel
theorem d_Subject_add_6 : decode prog_9_method_7_code 6 = .ok (.if_icmp .lt 5, 3) := by decide +kernel
theorem d_Subject_add_9 : decode prog_9_method_7_code 9 = .ok (.iconst (-1), 1) := by decide +kernel
theorem d_Subject_add_10 : decode prog_9_method_7_code 10 = .ok (.ireturn, 1) := by decide +kernel
theorem d_Subject_add_11 : decode prog_9_method_7_code 11 = .ok (.aload_n 0, 1) := by decide +kernel
theorem d_Subject_add_12 : decode prog_9_method_7_code 12 = .ok (.getfield 11, 3) := by decide +kernel
theorem d_Subject_add_15 : decode prog_9_method_7_code 15 = .ok (.aload_n 0, 1) := by decide +kernel
theorem d_Subject_add_16 : decode prog_9_method_7_code 16 = .ok (.getfield 21, 3) := by decide +kernel
theorem d_Subject_add_19 : decode prog_9_method_7_code 19 = .ok (.aload_n 1, 1) := by decide +kernel
theorem d_Subject_add_20 : decode prog_9_method_7_code 20 = .ok (.aastore, 1) := by decide +kernel
theorem d_Subject_add_21 : decode prog_9_method_7_code 21 = .ok (.aload_n 0, 1) := by decide +kernel
theorem d_Subject_add_22 : decode prog_9_method_7_code 22 = .ok (.dup, 1) := by decide +kernel
theorem d_Subject_add_23 : decode prog_9_method_7_code 23 = .ok (.getfield 21, 3) := by decide +kernel
theorem d_Subject_add_26 : decode prog_9_method_7_code 26 = .ok (.iconst 1, 1) := by decide +kernel
theorem d_Subject_add_27 : decode prog_9_method_7_code 27 = .ok (.iadd, 1) := by decide +kernel
theorem d_Subject_add_28 : decode prog_9_method_7_code 28 = .ok (.putfield 21, 3) := by decide +kernel
theorem d_Subject_add_31 : decode prog_9_method_7_code 31 = .ok (.aload_n 0, 1) := by decide +kernel
theorem d_Subject_add_32 : decode prog_9_method_7_code 32 = .ok (.getfield 21, 3) := by decide +kernel
theorem d_Subject_add_35 : decode prog_9_method_7_code 35 = .ok (.iconst 1, 1) := by decide +kernel
theorem d_Subject_add_36 : decode prog_9_method_7_code 36 = .ok (.isub, 1) := by decide +kernel
theorem d_Subject_add_37 : decode prog_9_method_7_code 37 = .ok (.ireturn, 1) := by decide +kernel
def Subject_add_b (call : ax_Cf) (x0 : Option Nat) (x1 : Option Nat) (h : ax_Hp) : ax_O :=
  (ax_gi h x0 6 1).bind fun v1 =>
  if v1 < 6 then
    (ax_gr h x0 6 0).bind fun v2 =>
    (ax_gi h x0 6 1).bind fun v3 =>
    (ax_sa h v2 6 3 v3 x1).bind fun h4 =>
    (ax_gi h4 x0 6 1).bind fun v5 =>
    (ax_pf h4 x0 6 1 (ax_I (v5 + 1))).bind fun h6 =>
    (ax_gi h6 x0 6 1).bind fun v7 =>
    ax_ri (v7 - 1) h6
  else
    ax_ri (-1) h
set_option maxHeartbeats 4000000 in
set_option maxRecDepth 20000 in
theorem Subject_add_t {l : Launch} {G : ax_G} {d : Nat} {call : ax_Cf} (hcall : ax_Hc l G d call) (x0 : Option Nat) (x1 : Option Nat) (h : ax_Hp) {r : ax_Rs} {h' : ax_Hp} (ho : Subject_add_b call x0 x1 h = some (r, h')) : ax_C l G (d + 1) y_Subject_add (.code y_Subject_add prog_9_method_7_code 2 (some (.int))) [ax_A x0, ax_A x1] h r h' := by
  refine ax_enter (by decide) (Nat.le_of_ble_eq_true rfl) ho (fun p e s mi args below meth c B E Nm => ?_)
  have B : ax_B G p s mi meth c "SchemaDesk$Subject" prog_9_method_7_code 2 (some (.int)) := B
  show ax_W G p l e s mi args below meth c 2 (d + 1) h 0 [(0, ax_A x0), (1, ax_A x1)] [] h (Subject_add_b call x0 x1 h)
  unfold Subject_add_b
  refine ax_aload_n B 0 d_Subject_add_0 rfl rfl ?_
  refine ax_getfi B cl_Subject (by decide) fk_Subject_21 d_Subject_add_1 (fun v1 => ?_)
  refine ax_bipush (v := 6) B d_Subject_add_4 (by decide) ?_
  refine ax_icmp_lt B 11 d_Subject_add_6 (by decide) ?_ ?_
  · refine ax_aload_n B 0 d_Subject_add_11 rfl rfl ?_
    refine ax_getfr B cl_Subject (by decide) fk_Subject_11 d_Subject_add_12 (fun v2 => ?_)
    refine ax_aload_n B 0 d_Subject_add_15 rfl rfl ?_
    refine ax_getfi B cl_Subject (by decide) fk_Subject_21 d_Subject_add_16 (fun v3 => ?_)
    refine ax_aload_n B 1 d_Subject_add_19 rfl rfl ?_
    refine ax_aast (kd := 6) B cl_Schema (by decide) (by decide) rfl d_Subject_add_20 (fun h4 => ?_)
    refine ax_aload_n B 0 d_Subject_add_21 rfl rfl ?_
    refine ax_dup B d_Subject_add_22 rfl ?_
    refine ax_getfi B cl_Subject (by decide) fk_Subject_21 d_Subject_add_23 (fun v5 => ?_)
    refine ax_iconst (v := 1) B d_Subject_add_26 (by decide) ?_
    refine ax_iadd B d_Subject_add_27 ?_
    refine ax_putf (v := ax_I (v5 + 1)) B cl_Subject (by decide) fk_Subject_21 (Or.inl rfl) (fun _ => rfl) (fun _ => rfl) d_Subject_add_28 (fun h6 => ?_)
    refine ax_aload_n B 0 d_Subject_add_31 rfl rfl ?_
    refine ax_getfi B cl_Subject (by decide) fk_Subject_21 d_Subject_add_32 (fun v7 => ?_)
    refine ax_iconst (v := 1) B d_Subject_add_35 (by decide) ?_
    refine ax_isub B d_Subject_add_36 ?_
    exact ax_ireturn B d_Subject_add_37
  · refine ax_iconst (v := (-1)) B d_Subject_add_9 (by decide) ?_
    exact ax_ireturn B d_Subject_add_10

theorem d_Subject_count_0 : decode prog_9_method_3_code 0 = .ok (.aload_n 0, 1) := by decide +kernel
theorem d_Subject_count_1 : decode prog_9_method_3_code 1 = .ok (.getfield 21, 3) := by decide +kernel
theorem d_Subject_count_4 : decode prog_9_method_3_code 4 = .ok (.ireturn, 1) := by decide +kernel
def Subject_count_b (call : ax_Cf) (x0 : Option Nat) (h : ax_Hp) : ax_O :=
  (ax_gi h x0 6 1).bind fun v1 =>
  ax_ri v1 h
set_option maxHeartbeats 4000000 in
set_option maxRecDepth 20000 in
theorem Subject_count_t {l : Launch} {G : ax_G} {d : Nat} {call : ax_Cf} (hcall : ax_Hc l G d call) (x0 : Option Nat) (h : ax_Hp) {r : ax_Rs} {h' : ax_Hp} (ho : Subject_count_b call x0 h = some (r, h')) : ax_C l G (d + 1) y_Subject_count (.code y_Subject_count prog_9_method_3_code 1 (some (.int))) [ax_A x0] h r h' := by
  refine ax_enter (by decide) (Nat.le_of_ble_eq_true rfl) ho (fun p e s mi args below meth c B E Nm => ?_)
  have B : ax_B G p s mi meth c "SchemaDesk$Subject" prog_9_method_3_code 1 (some (.int)) := B
  show ax_W G p l e s mi args below meth c 1 (d + 1) h 0 [(0, ax_A x0)] [] h (Subject_count_b call x0 h)
  unfold Subject_count_b
  refine ax_aload_n B 0 d_Subject_count_0 rfl rfl ?_
  refine ax_getfi B cl_Subject (by decide) fk_Subject_21 d_Subject_count_1 (fun v1 => ?_)
  exact ax_ireturn B d_Subject_count_4

theorem d_Subject_version_0 : decode prog_9_method_4_code 0 = .ok (.iload_n 1, 1) := by decide +kernel
theorem d_Subject_version_1 : decode prog_9_method_4_code 1 = .ok (.ifCond .lt 20, 3) := by decide +kernel
theorem d_Subject_version_4 : decode prog_9_method_4_code 4 = .ok (.iload_n 1, 1) := by decide +kernel
theorem d_Subject_version_5 : decode prog_9_method_4_code 5 = .ok (.aload_n 0, 1) := by decide +kernel
theorem d_Subject_version_6 : decode prog_9_method_4_code 6 = .ok (.getfield 21, 3) := by decide +kernel
theorem d_Subject_version_9 : decode prog_9_method_4_code 9 = .ok (.if_icmp .ge 12, 3) := by decide +kernel
theorem d_Subject_version_12 : decode prog_9_method_4_code 12 = .ok (.aload_n 0, 1) := by decide +kernel
theorem d_Subject_version_13 : decode prog_9_method_4_code 13 = .ok (.getfield 11, 3) := by decide +kernel
theorem d_Subject_version_16 : decode prog_9_method_4_code 16 = .ok (.iload_n 1, 1) := by decide +kernel
theorem d_Subject_version_17 : decode prog_9_method_4_code 17 = .ok (.aaload, 1) := by decide +kernel
theorem d_Subject_version_18 : decode prog_9_method_4_code 18 = .ok (.goto 4, 3) := by decide +kernel
theorem d_Subject_version_21 : decode prog_9_method_4_code 21 = .ok (.aconst_null, 1) := by decide +kernel
theorem d_Subject_version_22 : decode prog_9_method_4_code 22 = .ok (.areturn, 1) := by decide +kernel
def Subject_version_b (call : ax_Cf) (x0 : Option Nat) (x1 : Int32) (h : ax_Hp) : ax_O :=
  if x1 < 0 then
    ax_rr none h
  else
    (ax_gi h x0 6 1).bind fun v1 =>
    if v1 ≤ x1 then
      ax_rr none h
    else
      (ax_gr h x0 6 0).bind fun v2 =>
      (ax_ldr h v2 6 x1).bind fun v3 =>
      ax_rr v3 h
set_option maxHeartbeats 4000000 in
set_option maxRecDepth 20000 in
theorem Subject_version_t {l : Launch} {G : ax_G} {d : Nat} {call : ax_Cf} (hcall : ax_Hc l G d call) (x0 : Option Nat) (x1 : Int32) (h : ax_Hp) {r : ax_Rs} {h' : ax_Hp} (ho : Subject_version_b call x0 x1 h = some (r, h')) : ax_C l G (d + 1) y_Subject_version (.code y_Subject_version prog_9_method_4_code 2 (some (.object "SchemaDesk$Schema"))) [ax_A x0, ax_I x1] h r h' := by
  refine ax_enter (by decide) (Nat.le_of_ble_eq_true rfl) ho (fun p e s mi args below meth c B E Nm => ?_)
  have B : ax_B G p s mi meth c "SchemaDesk$Subject" prog_9_method_4_code 2 (some (.object "SchemaDesk$Schema")) := B
  show ax_W G p l e s mi args below meth c 2 (d + 1) h 0 [(0, ax_A x0), (1, ax_I x1)] [] h (Subject_version_b call x0 x1 h)
  unfold Subject_version_b
  refine ax_iload_n B 1 d_Subject_version_0 rfl rfl ?_
  refine ax_if_lt B 21 d_Subject_version_1 (by decide) ?_ ?_
  · refine ax_null B d_Subject_version_21 ?_
    exact ax_areturn B rfl (Or.inl ⟨_, rfl⟩) d_Subject_version_22
  · refine ax_iload_n B 1 d_Subject_version_4 rfl rfl ?_
    refine ax_aload_n B 0 d_Subject_version_5 rfl rfl ?_
    refine ax_getfi B cl_Subject (by decide) fk_Subject_21 d_Subject_version_6 (fun v1 => ?_)
    refine ax_icmp_ge B 21 d_Subject_version_9 (by decide) ?_ ?_
    · refine ax_null B d_Subject_version_21 ?_
      exact ax_areturn B rfl (Or.inl ⟨_, rfl⟩) d_Subject_version_22
    · refine ax_aload_n B 0 d_Subject_version_12 rfl rfl ?_
      refine ax_getfr B cl_Subject (by decide) fk_Subject_11 d_Subject_version_13 (fun v2 => ?_)
      refine ax_iload_n B 1 d_Subject_version_16 rfl rfl ?_
      refine ax_aald (kd := 6) B (by decide) rfl d_Subject_version_17 (fun v3 => ?_)
      refine ax_goto B 22 d_Subject_version_18 (by decide) ?_
      exact ax_areturn B rfl (Or.inl ⟨_, rfl⟩) d_Subject_version_22
