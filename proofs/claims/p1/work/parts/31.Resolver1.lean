theorem d_Resolver_addDefault_0 : decode prog_4_method_13_code 0 = .ok (.iload_n 1, 1) := by decide +kernel
theorem d_Resolver_addDefault_1 : decode prog_4_method_13_code 1 = .ok (.iconst (-1), 1) := by decide +kernel
theorem d_Resolver_addDefault_2 : decode prog_4_method_13_code 2 = .ok (.if_icmp .ne 5, 3) := by decide +kernel
theorem d_Resolver_addDefault_5 : decode prog_4_method_13_code 5 = .ok (.iconst 0, 1) := by decide +kernel
theorem d_Resolver_addDefault_6 : decode prog_4_method_13_code 6 = .ok (.ireturn, 1) := by decide +kernel
theorem d_Resolver_addDefault_7 : decode prog_4_method_13_code 7 = .ok (.aload_n 0, 1) := by decide +kernel
theorem d_Resolver_addDefault_8 : decode prog_4_method_13_code 8 = .ok (.getfield 19, 3) := by decide +kernel
theorem d_Resolver_addDefault_11 : decode prog_4_method_13_code 11 = .ok (.iload_n 1, 1) := by decide +kernel
theorem d_Resolver_addDefault_12 : decode prog_4_method_13_code 12 = .ok (.invokevirtual 169, 3) := by decide +kernel
theorem d_Resolver_addDefault_15 : decode prog_4_method_13_code 15 = .ok (.istore_n 2, 1) := by decide +kernel
theorem d_Resolver_addDefault_16 : decode prog_4_method_13_code 16 = .ok (.iload_n 1, 1) := by decide +kernel
theorem d_Resolver_addDefault_17 : decode prog_4_method_13_code 17 = .ok (.istore_n 3, 1) := by decide +kernel
theorem d_Resolver_addDefault_18 : decode prog_4_method_13_code 18 = .ok (.iload_n 3, 1) := by decide +kernel
theorem d_Resolver_addDefault_19 : decode prog_4_method_13_code 19 = .ok (.iload_n 2, 1) := by decide +kernel
theorem d_Resolver_addDefault_20 : decode prog_4_method_13_code 20 = .ok (.if_icmp .ge 66, 3) := by decide +kernel
theorem d_Resolver_addDefault_23 : decode prog_4_method_13_code 23 = .ok (.aload_n 0, 1) := by decide +kernel
theorem d_Resolver_addDefault_24 : decode prog_4_method_13_code 24 = .ok (.getfield 19, 3) := by decide +kernel
theorem d_Resolver_addDefault_27 : decode prog_4_method_13_code 27 = .ok (.iload_n 3, 1) := by decide +kernel
theorem d_Resolver_addDefault_28 : decode prog_4_method_13_code 28 = .ok (.invokevirtual 172, 3) := by decide +kernel
theorem d_Resolver_addDefault_31 : decode prog_4_method_13_code 31 = .ok (.ifCond .eq 29, 3) := by decide +kernel
theorem d_Resolver_addDefault_34 : decode prog_4_method_13_code 34 = .ok (.aload_n 0, 1) := by decide +kernel
theorem d_Resolver_addDefault_35 : decode prog_4_method_13_code 35 = .ok (.getfield 22, 3) := by decide +kernel
theorem d_Resolver_addDefault_38 : decode prog_4_method_13_code 38 = .ok (.bipush 48, 2) := by decide +kernel
theorem d_Resolver_addDefault_40 : decode prog_4_method_13_code 40 = .ok (.invokevirtual 63, 3) := by decide +kernel
theorem d_Resolver_addDefault_43 : decode prog_4_method_13_code 43 = .ok (.ifCond .eq 15, 3) := by decide +kernel
theorem d_Resolver_addDefault_46 : decode prog_4_method_13_code 46 = .ok (.aload_n 0, 1) := by decide +kernel
theorem d_Resolver_addDefault_47 : decode prog_4_method_13_code 47 = .ok (.getfield 22, 3) := by decide +kernel
theorem d_Resolver_addDefault_50 : decode prog_4_method_13_code 50 = .ok (.bipush 58, 2) := by decide +kernel
theorem d_Resolver_addDefault_52 : decode prog_4_method_13_code 52 = .ok (.invokevirtual 63, 3) := by decide +kernel
theorem d_Resolver_addDefault_55 : decode prog_4_method_13_code 55 = .ok (.ifCond .ne 5, 3) := by decide +kernel
theorem d_Resolver_addDefault_58 : decode prog_4_method_13_code 58 = .ok (.iconst 0, 1) := by decide +kernel
theorem d_Resolver_addDefault_59 : decode prog_4_method_13_code 59 = .ok (.ireturn, 1) := by decide +kernel
theorem d_Resolver_addDefault_60 : decode prog_4_method_13_code 60 = .ok (.aload_n 0, 1) := by decide +kernel
theorem d_Resolver_addDefault_61 : decode prog_4_method_13_code 61 = .ok (.getfield 22, 3) := by decide +kernel
theorem d_Resolver_addDefault_64 : decode prog_4_method_13_code 64 = .ok (.aload_n 0, 1) := by decide +kernel
theorem d_Resolver_addDefault_65 : decode prog_4_method_13_code 65 = .ok (.getfield 19, 3) := by decide +kernel
theorem d_Resolver_addDefault_68 : decode prog_4_method_13_code 68 = .ok (.iload_n 3, 1) := by decide +kernel
theorem d_Resolver_addDefault_69 : decode prog_4_method_13_code 69 = .ok (.invokevirtual 158, 3) := by decide +kernel
theorem d_Resolver_addDefault_72 : decode prog_4_method_13_code 72 = .ok (.invokevirtual 63, 3) := by decide +kernel
theorem d_Resolver_addDefault_75 : decode prog_4_method_13_code 75 = .ok (.ifCond .ne 5, 3) := by decide +kernel
theorem d_Resolver_addDefault_78 : decode prog_4_method_13_code 78 = .ok (.iconst 0, 1) := by decide +kernel
theorem d_Resolver_addDefault_79 : decode prog_4_method_13_code 79 = .ok (.ireturn, 1) := by decide +kernel
theorem d_Resolver_addDefault_80 : decode prog_4_method_13_code 80 = .ok (.iinc 3 1, 3) := by decide +kernel
theorem d_Resolver_addDefault_83 : decode prog_4_method_13_code 83 = .ok (.goto (-65), 3) := by decide +kernel
theorem d_Resolver_addDefault_86 : decode prog_4_method_13_code 86 = .ok (.iconst 1, 1) := by decide +kernel
theorem d_Resolver_addDefault_87 : decode prog_4_method_13_code 87 = .ok (.ireturn, 1) := by decide +kernel
def Resolver_addDefault_bd18 (call : ax_Cf)  (k18 : Option Nat → Int32 → Int32 → ax_Hp → ax_O) (x0 : Option Nat) (x2 : Int32) (x3 : Int32) (h : ax_Hp) : ax_O :=
  if x2 ≤ x3 then
    ax_rz 1 h
  else
    (ax_gr h x0 1 3).bind fun v4 =>
    ax_on h v4 3 <| ax_ci (call 140 [ax_A v4, ax_I x3] h) fun v6 h5 =>
    if v6 = 0 then
      (ax_gr h5 x0 1 4).bind fun v7 =>
      (ax_gr h5 x0 1 3).bind fun v8 =>
      ax_on h5 v8 3 <| ax_ci (call 81 [ax_A v8, ax_I x3] h5) fun v10 h9 =>
      ax_on h9 v7 2 <| ax_ci (call 8 [ax_A v7, ax_I v10] h9) fun v12 h11 =>
      if v12 = 0 then
        ax_rz 0 h11
      else
        k18 x0 x2 (x3 + 1) h11
    else
      (ax_gr h5 x0 1 4).bind fun v13 =>
      ax_on h5 v13 2 <| ax_ci (call 8 [ax_A v13, ax_I 48] h5) fun v15 h14 =>
      if v15 = 0 then
        ax_rz 0 h14
      else
        (ax_gr h14 x0 1 4).bind fun v16 =>
        ax_on h14 v16 2 <| ax_ci (call 8 [ax_A v16, ax_I 58] h14) fun v18 h17 =>
        if v18 = 0 then
          ax_rz 0 h17
        else
          (ax_gr h17 x0 1 4).bind fun v19 =>
          (ax_gr h17 x0 1 3).bind fun v20 =>
          ax_on h17 v20 3 <| ax_ci (call 81 [ax_A v20, ax_I x3] h17) fun v22 h21 =>
          ax_on h21 v19 2 <| ax_ci (call 8 [ax_A v19, ax_I v22] h21) fun v24 h23 =>
          if v24 = 0 then
            ax_rz 0 h23
          else
            k18 x0 x2 (x3 + 1) h23
def Resolver_addDefault_lp18 (call : ax_Cf)  : Nat → Option Nat → Int32 → Int32 → ax_Hp → ax_O
  | 0 => fun _ _ _ _ => none
  | n + 1 => Resolver_addDefault_bd18 call  (Resolver_addDefault_lp18 call  n)
set_option maxHeartbeats 4000000 in
set_option maxRecDepth 20000 in
theorem Resolver_addDefault_lb18 {l : Launch} {G : ax_G} {d : Nat} {call : ax_Cf} (hcall : ax_Hc l G d call) {p : Program} {e : Env} {s : State} {mi : MethodId} {args : Array Value} {below : List Frame} {meth : Method} {c : Code} {h0 : ax_Hp} (B : ax_B G p s mi meth c "SchemaDesk$Resolver" prog_4_method_13_code 4 (some (.boolean))) (E : c.exceptionTable.isEmpty = true) (Nm : meth.name = y_Resolver_addDefault.name)   {k18 : Option Nat → Int32 → Int32 → ax_Hp → ax_O} (hk18 : ∀ (x0 : Option Nat) (x2 : Int32) (x3 : Int32) (h : ax_Hp), ax_W G p l e s mi args below meth c 4 (d + 1) h0 18 [(0, ax_A x0), (2, ax_I x2), (3, ax_I x3)] [] h (k18 x0 x2 x3 h)) (x0 : Option Nat) (x2 : Int32) (x3 : Int32) (h : ax_Hp) : ax_W G p l e s mi args below meth c 4 (d + 1) h0 18 [(0, ax_A x0), (2, ax_I x2), (3, ax_I x3)] [] h (Resolver_addDefault_bd18 call  k18 x0 x2 x3 h) := by
  unfold Resolver_addDefault_bd18
  refine ax_iload_n B 2 d_Resolver_addDefault_18 rfl rfl ?_
  refine ax_iload_n B 1 d_Resolver_addDefault_19 rfl rfl ?_
  refine ax_icmp_ge B 86 d_Resolver_addDefault_20 (by decide) ?_ ?_
  · refine ax_iconst (v := 1) B d_Resolver_addDefault_86 (by decide) ?_
    exact ax_zreturn B d_Resolver_addDefault_87
  · refine ax_aload_n B 0 d_Resolver_addDefault_23 rfl rfl ?_
    refine ax_getfr B cl_Resolver (by decide) fk_Resolver_19 d_Resolver_addDefault_24 (fun v4 => ?_)
    refine ax_iload_n B 2 d_Resolver_addDefault_27 rfl rfl ?_
    refine ax_callVi (av := [ax_I x3]) (rest := []) B E hm_Schema_isMarkedUnion cl_Schema rfl wd_864 wd_865 lk_Resolver_172 d_Resolver_addDefault_28 rfl (Nat.le_of_ble_eq_true rfl) (fun _ _ hh => hcall 140 _ _ _ _ hh) (fun v6 h5 => ?_)
    refine ax_if_eq B 60 d_Resolver_addDefault_31 (by decide) ?_ ?_
    · refine ax_aload_n B 0 d_Resolver_addDefault_60 rfl rfl ?_
      refine ax_getfr B cl_Resolver (by decide) fk_Resolver_22 d_Resolver_addDefault_61 (fun v7 => ?_)
      refine ax_aload_n B 0 d_Resolver_addDefault_64 rfl rfl ?_
      refine ax_getfr B cl_Resolver (by decide) fk_Resolver_19 d_Resolver_addDefault_65 (fun v8 => ?_)
      refine ax_iload_n B 2 d_Resolver_addDefault_68 rfl rfl ?_
      refine ax_callVi (av := [ax_I x3]) (rest := [ax_A v7]) B E hm_Schema_at cl_Schema rfl wd_527 wd_528 lk_Resolver_158 d_Resolver_addDefault_69 rfl (Nat.le_of_ble_eq_true rfl) (fun _ _ hh => hcall 81 _ _ _ _ hh) (fun v10 h9 => ?_)
      refine ax_callVi (av := [ax_I v10]) (rest := []) B E hm_Row_add cl_Row rfl wd_123 wd_124 lk_Resolver_63 d_Resolver_addDefault_72 rfl (Nat.le_of_ble_eq_true rfl) (fun _ _ hh => hcall 8 _ _ _ _ hh) (fun v12 h11 => ?_)
      refine ax_if_ne B 80 d_Resolver_addDefault_75 (by decide) ?_ ?_
      · refine ax_iinc (v := x3 + 1) (tv2 := [(3, ax_I (x3 + 1)), (0, ax_A x0), (2, ax_I x2)]) B 2 d_Resolver_addDefault_80 rfl (congrArg (_ + ·) (by decide)) (by decide) rfl ?_
        refine ax_goto B 18 d_Resolver_addDefault_83 (by decide) ?_
        refine ax_sub (tv2 := [(0, ax_A x0), (2, ax_I x2), (3, ax_I (x3 + 1))]) [1, 2, 0] rfl ?_
        exact hk18 x0 x2 (x3 + 1) h11
      · refine ax_iconst (v := 0) B d_Resolver_addDefault_78 (by decide) ?_
        exact ax_zreturn B d_Resolver_addDefault_79
    · refine ax_aload_n B 0 d_Resolver_addDefault_34 rfl rfl ?_
      refine ax_getfr B cl_Resolver (by decide) fk_Resolver_22 d_Resolver_addDefault_35 (fun v13 => ?_)
      refine ax_bipush (v := 48) B d_Resolver_addDefault_38 (by decide) ?_
      refine ax_callVi (av := [ax_I 48]) (rest := []) B E hm_Row_add cl_Row rfl wd_123 wd_124 lk_Resolver_63 d_Resolver_addDefault_40 rfl (Nat.le_of_ble_eq_true rfl) (fun _ _ hh => hcall 8 _ _ _ _ hh) (fun v15 h14 => ?_)
      refine ax_if_eq B 58 d_Resolver_addDefault_43 (by decide) ?_ ?_
      · refine ax_iconst (v := 0) B d_Resolver_addDefault_58 (by decide) ?_
        exact ax_zreturn B d_Resolver_addDefault_59
      · refine ax_aload_n B 0 d_Resolver_addDefault_46 rfl rfl ?_
        refine ax_getfr B cl_Resolver (by decide) fk_Resolver_22 d_Resolver_addDefault_47 (fun v16 => ?_)
        refine ax_bipush (v := 58) B d_Resolver_addDefault_50 (by decide) ?_
        refine ax_callVi (av := [ax_I 58]) (rest := []) B E hm_Row_add cl_Row rfl wd_123 wd_124 lk_Resolver_63 d_Resolver_addDefault_52 rfl (Nat.le_of_ble_eq_true rfl) (fun _ _ hh => hcall 8 _ _ _ _ hh) (fun v18 h17 => ?_)
        refine ax_if_ne B 60 d_Resolver_addDefault_55 (by decide) ?_ ?_
        · refine ax_aload_n B 0 d_Resolver_addDefault_60 rfl rfl ?_
          refine ax_getfr B cl_Resolver (by decide) fk_Resolver_22 d_Resolver_addDefault_61 (fun v19 => ?_)
          refine ax_aload_n B 0 d_Resolver_addDefault_64 rfl rfl ?_
          refine ax_getfr B cl_Resolver (by decide) fk_Resolver_19 d_Resolver_addDefault_65 (fun v20 => ?_)
          refine ax_iload_n B 2 d_Resolver_addDefault_68 rfl rfl ?_
          refine ax_callVi (av := [ax_I x3]) (rest := [ax_A v19]) B E hm_Schema_at cl_Schema rfl wd_527 wd_528 lk_Resolver_158 d_Resolver_addDefault_69 rfl (Nat.le_of_ble_eq_true rfl) (fun _ _ hh => hcall 81 _ _ _ _ hh) (fun v22 h21 => ?_)
          refine ax_callVi (av := [ax_I v22]) (rest := []) B E hm_Row_add cl_Row rfl wd_123 wd_124 lk_Resolver_63 d_Resolver_addDefault_72 rfl (Nat.le_of_ble_eq_true rfl) (fun _ _ hh => hcall 8 _ _ _ _ hh) (fun v24 h23 => ?_)
          refine ax_if_ne B 80 d_Resolver_addDefault_75 (by decide) ?_ ?_
          · refine ax_iinc (v := x3 + 1) (tv2 := [(3, ax_I (x3 + 1)), (0, ax_A x0), (2, ax_I x2)]) B 2 d_Resolver_addDefault_80 rfl (congrArg (_ + ·) (by decide)) (by decide) rfl ?_
            refine ax_goto B 18 d_Resolver_addDefault_83 (by decide) ?_
            refine ax_sub (tv2 := [(0, ax_A x0), (2, ax_I x2), (3, ax_I (x3 + 1))]) [1, 2, 0] rfl ?_
            exact hk18 x0 x2 (x3 + 1) h23
          · refine ax_iconst (v := 0) B d_Resolver_addDefault_78 (by decide) ?_
            exact ax_zreturn B d_Resolver_addDefault_79
        · refine ax_iconst (v := 0) B d_Resolver_addDefault_58 (by decide) ?_
          exact ax_zreturn B d_Resolver_addDefault_59
theorem Resolver_addDefault_lq18 {l : Launch} {G : ax_G} {d : Nat} {call : ax_Cf} (hcall : ax_Hc l G d call) {p : Program} {e : Env} {s : State} {mi : MethodId} {args : Array Value} {below : List Frame} {meth : Method} {c : Code} {h0 : ax_Hp} (B : ax_B G p s mi meth c "SchemaDesk$Resolver" prog_4_method_13_code 4 (some (.boolean))) (E : c.exceptionTable.isEmpty = true) (Nm : meth.name = y_Resolver_addDefault.name)   : ∀ (n : Nat) (x0 : Option Nat) (x2 : Int32) (x3 : Int32) (h : ax_Hp), ax_W G p l e s mi args below meth c 4 (d + 1) h0 18 [(0, ax_A x0), (2, ax_I x2), (3, ax_I x3)] [] h (Resolver_addDefault_lp18 call  n x0 x2 x3 h)
  | 0, _, _, _, _ => ax_none
  | n + 1, x0, x2, x3, h => Resolver_addDefault_lb18 hcall B E Nm   (Resolver_addDefault_lq18 hcall B E Nm   n) x0 x2 x3 h
def Resolver_addDefault_b (call : ax_Cf) (x0 : Option Nat) (x1 : Int32) (h : ax_Hp) : ax_O :=
  if x1 = (-1) then
    ax_rz 0 h
  else
    (ax_gr h x0 1 3).bind fun v1 =>
    ax_on h v1 3 <| ax_ci (call 77 [ax_A v1, ax_I x1] h) fun v3 h2 =>
    Resolver_addDefault_lp18 call ax_fuel x0 v3 x1 h2
set_option maxHeartbeats 4000000 in
set_option maxRecDepth 20000 in
theorem Resolver_addDefault_t {l : Launch} {G : ax_G} {d : Nat} {call : ax_Cf} (hcall : ax_Hc l G d call) (x0 : Option Nat) (x1 : Int32) (h : ax_Hp) {r : ax_Rs} {h' : ax_Hp} (ho : Resolver_addDefault_b call x0 x1 h = some (r, h')) : ax_C l G (d + 1) y_Resolver_addDefault (.code y_Resolver_addDefault prog_4_method_13_code 4 (some (.boolean))) [ax_A x0, ax_I x1] h r h' := by
  refine ax_enter (by decide) (Nat.le_of_ble_eq_true rfl) ho (fun p e s mi args below meth c B E Nm => ?_)
  have B : ax_B G p s mi meth c "SchemaDesk$Resolver" prog_4_method_13_code 4 (some (.boolean)) := B
  show ax_W G p l e s mi args below meth c 4 (d + 1) h 0 [(0, ax_A x0), (1, ax_I x1)] [] h (Resolver_addDefault_b call x0 x1 h)
  unfold Resolver_addDefault_b
  refine ax_iload_n B 1 d_Resolver_addDefault_0 rfl rfl ?_
  refine ax_iconst (v := (-1)) B d_Resolver_addDefault_1 (by decide) ?_
  refine ax_icmp_ne B 7 d_Resolver_addDefault_2 (by decide) ?_ ?_
  · refine ax_aload_n B 0 d_Resolver_addDefault_7 rfl rfl ?_
    refine ax_getfr B cl_Resolver (by decide) fk_Resolver_19 d_Resolver_addDefault_8 (fun v1 => ?_)
    refine ax_iload_n B 1 d_Resolver_addDefault_11 rfl rfl ?_
    refine ax_callVi (av := [ax_I x1]) (rest := []) B E hm_Schema_end cl_Schema rfl wd_510 wd_511 lk_Resolver_169 d_Resolver_addDefault_12 rfl (Nat.le_of_ble_eq_true rfl) (fun _ _ hh => hcall 77 _ _ _ _ hh) (fun v3 h2 => ?_)
    refine ax_istore_n (tv2 := [(2, ax_I v3), (0, ax_A x0), (1, ax_I x1)]) B d_Resolver_addDefault_15 rfl (by decide) rfl ?_
    refine ax_iload_n B 2 d_Resolver_addDefault_16 rfl rfl ?_
    refine ax_istore_n (tv2 := [(3, ax_I x1), (2, ax_I v3), (0, ax_A x0), (1, ax_I x1)]) B d_Resolver_addDefault_17 rfl (by decide) rfl ?_
    refine ax_sub (tv2 := [(0, ax_A x0), (2, ax_I v3), (3, ax_I x1)]) [2, 1, 0] rfl ?_
    exact Resolver_addDefault_lq18 hcall B E Nm ax_fuel x0 v3 x1 h2
  · refine ax_iconst (v := 0) B d_Resolver_addDefault_5 (by decide) ?_
    exact ax_zreturn B d_Resolver_addDefault_6
