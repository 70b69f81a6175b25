theorem d_Resolver_resolveFields_0 : decode prog_4_method_10_code 0 = .ok (.aload_n 0, 1) := by decide +kernel
theorem d_Resolver_resolveFields_1 : decode prog_4_method_10_code 1 = .ok (.getfield 15, 3) := by decide +kernel
theorem d_Resolver_resolveFields_4 : decode prog_4_method_10_code 4 = .ok (.iload_n 1, 1) := by decide +kernel
theorem d_Resolver_resolveFields_5 : decode prog_4_method_10_code 5 = .ok (.invokevirtual 137, 3) := by decide +kernel
theorem d_Resolver_resolveFields_8 : decode prog_4_method_10_code 8 = .ok (.istore 4, 2) := by decide +kernel
theorem d_Resolver_resolveFields_10 : decode prog_4_method_10_code 10 = .ok (.iconst 0, 1) := by decide +kernel
theorem d_Resolver_resolveFields_11 : decode prog_4_method_10_code 11 = .ok (.istore 5, 2) := by decide +kernel
theorem d_Resolver_resolveFields_13 : decode prog_4_method_10_code 13 = .ok (.iload 5, 2) := by decide +kernel
theorem d_Resolver_resolveFields_15 : decode prog_4_method_10_code 15 = .ok (.bipush 6, 2) := by decide +kernel
theorem d_Resolver_resolveFields_17 : decode prog_4_method_10_code 17 = .ok (.if_icmp .ge 56, 3) := by decide +kernel
theorem d_Resolver_resolveFields_20 : decode prog_4_method_10_code 20 = .ok (.iload 4, 2) := by decide +kernel
theorem d_Resolver_resolveFields_22 : decode prog_4_method_10_code 22 = .ok (.iconst (-1), 1) := by decide +kernel
theorem d_Resolver_resolveFields_23 : decode prog_4_method_10_code 23 = .ok (.if_icmp .eq 50, 3) := by decide +kernel
theorem d_Resolver_resolveFields_26 : decode prog_4_method_10_code 26 = .ok (.aload_n 0, 1) := by decide +kernel
theorem d_Resolver_resolveFields_27 : decode prog_4_method_10_code 27 = .ok (.iload 4, 2) := by decide +kernel
theorem d_Resolver_resolveFields_29 : decode prog_4_method_10_code 29 = .ok (.invokevirtual 140, 3) := by decide +kernel
theorem d_Resolver_resolveFields_32 : decode prog_4_method_10_code 32 = .ok (.ifCond .eq 22, 3) := by decide +kernel
theorem d_Resolver_resolveFields_35 : decode prog_4_method_10_code 35 = .ok (.aload_n 0, 1) := by decide +kernel
theorem d_Resolver_resolveFields_36 : decode prog_4_method_10_code 36 = .ok (.getfield 35, 3) := by decide +kernel
theorem d_Resolver_resolveFields_39 : decode prog_4_method_10_code 39 = .ok (.aload_n 0, 1) := by decide +kernel
theorem d_Resolver_resolveFields_40 : decode prog_4_method_10_code 40 = .ok (.getfield 15, 3) := by decide +kernel
theorem d_Resolver_resolveFields_43 : decode prog_4_method_10_code 43 = .ok (.iload 4, 2) := by decide +kernel
theorem d_Resolver_resolveFields_45 : decode prog_4_method_10_code 45 = .ok (.invokevirtual 143, 3) := by decide +kernel
theorem d_Resolver_resolveFields_48 : decode prog_4_method_10_code 48 = .ok (.invokevirtual 146, 3) := by decide +kernel
theorem d_Resolver_resolveFields_51 : decode prog_4_method_10_code 51 = .ok (.ifCond .ne 5, 3) := by decide +kernel
theorem d_Resolver_resolveFields_54 : decode prog_4_method_10_code 54 = .ok (.iconst 0, 1) := by decide +kernel
theorem d_Resolver_resolveFields_55 : decode prog_4_method_10_code 55 = .ok (.ireturn, 1) := by decide +kernel
theorem d_Resolver_resolveFields_56 : decode prog_4_method_10_code 56 = .ok (.aload_n 0, 1) := by decide +kernel
theorem d_Resolver_resolveFields_57 : decode prog_4_method_10_code 57 = .ok (.getfield 15, 3) := by decide +kernel
theorem d_Resolver_resolveFields_60 : decode prog_4_method_10_code 60 = .ok (.iload 4, 2) := by decide +kernel
theorem d_Resolver_resolveFields_62 : decode prog_4_method_10_code 62 = .ok (.invokevirtual 149, 3) := by decide +kernel
theorem d_Resolver_resolveFields_65 : decode prog_4_method_10_code 65 = .ok (.istore 4, 2) := by decide +kernel
theorem d_Resolver_resolveFields_67 : decode prog_4_method_10_code 67 = .ok (.iinc 5 1, 3) := by decide +kernel
theorem d_Resolver_resolveFields_70 : decode prog_4_method_10_code 70 = .ok (.goto (-57), 3) := by decide +kernel
theorem d_Resolver_resolveFields_73 : decode prog_4_method_10_code 73 = .ok (.aload_n 0, 1) := by decide +kernel
theorem d_Resolver_resolveFields_74 : decode prog_4_method_10_code 74 = .ok (.getfield 9, 3) := by decide +kernel
theorem d_Resolver_resolveFields_77 : decode prog_4_method_10_code 77 = .ok (.invokevirtual 152, 3) := by decide +kernel
theorem d_Resolver_resolveFields_80 : decode prog_4_method_10_code 80 = .ok (.istore 5, 2) := by decide +kernel
theorem d_Resolver_resolveFields_82 : decode prog_4_method_10_code 82 = .ok (.aload_n 0, 1) := by decide +kernel
theorem d_Resolver_resolveFields_83 : decode prog_4_method_10_code 83 = .ok (.getfield 22, 3) := by decide +kernel
theorem d_Resolver_resolveFields_86 : decode prog_4_method_10_code 86 = .ok (.bipush 123, 2) := by decide +kernel
theorem d_Resolver_resolveFields_88 : decode prog_4_method_10_code 88 = .ok (.invokevirtual 63, 3) := by decide +kernel
theorem d_Resolver_resolveFields_91 : decode prog_4_method_10_code 91 = .ok (.ifCond .ne 5, 3) := by decide +kernel
theorem d_Resolver_resolveFields_94 : decode prog_4_method_10_code 94 = .ok (.iconst 0, 1) := by decide +kernel
theorem d_Resolver_resolveFields_95 : decode prog_4_method_10_code 95 = .ok (.ireturn, 1) := by decide +kernel
theorem d_Resolver_resolveFields_96 : decode prog_4_method_10_code 96 = .ok (.aload_n 0, 1) := by decide +kernel
theorem d_Resolver_resolveFields_97 : decode prog_4_method_10_code 97 = .ok (.getfield 19, 3) := by decide +kernel
theorem d_Resolver_resolveFields_100 : decode prog_4_method_10_code 100 = .ok (.iload_n 2, 1) := by decide +kernel
theorem d_Resolver_resolveFields_101 : decode prog_4_method_10_code 101 = .ok (.invokevirtual 137, 3) := by decide +kernel
theorem d_Resolver_resolveFields_104 : decode prog_4_method_10_code 104 = .ok (.istore 6, 2) := by decide +kernel
theorem d_Resolver_resolveFields_106 : decode prog_4_method_10_code 106 = .ok (.iconst 0, 1) := by decide +kernel
theorem d_Resolver_resolveFields_107 : decode prog_4_method_10_code 107 = .ok (.istore 7, 2) := by decide +kernel
theorem d_Resolver_resolveFields_109 : decode prog_4_method_10_code 109 = .ok (.iload 7, 2) := by decide +kernel
theorem d_Resolver_resolveFields_111 : decode prog_4_method_10_code 111 = .ok (.bipush 6, 2) := by decide +kernel
theorem d_Resolver_resolveFields_113 : decode prog_4_method_10_code 113 = .ok (.if_icmp .ge 72, 3) := by decide +kernel
theorem d_Resolver_resolveFields_116 : decode prog_4_method_10_code 116 = .ok (.aload_n 0, 1) := by decide +kernel
theorem d_Resolver_resolveFields_117 : decode prog_4_method_10_code 117 = .ok (.iload_n 1, 1) := by decide +kernel
theorem d_Resolver_resolveFields_118 : decode prog_4_method_10_code 118 = .ok (.iload 6, 2) := by decide +kernel
theorem d_Resolver_resolveFields_120 : decode prog_4_method_10_code 120 = .ok (.iload_n 3, 1) := by decide +kernel
theorem d_Resolver_resolveFields_121 : decode prog_4_method_10_code 121 = .ok (.invokevirtual 155, 3) := by decide +kernel
theorem d_Resolver_resolveFields_124 : decode prog_4_method_10_code 124 = .ok (.ifCond .ne 5, 3) := by decide +kernel
theorem d_Resolver_resolveFields_127 : decode prog_4_method_10_code 127 = .ok (.iconst 0, 1) := by decide +kernel
theorem d_Resolver_resolveFields_128 : decode prog_4_method_10_code 128 = .ok (.ireturn, 1) := by decide +kernel
theorem d_Resolver_resolveFields_129 : decode prog_4_method_10_code 129 = .ok (.aload_n 0, 1) := by decide +kernel
theorem d_Resolver_resolveFields_130 : decode prog_4_method_10_code 130 = .ok (.getfield 19, 3) := by decide +kernel
theorem d_Resolver_resolveFields_133 : decode prog_4_method_10_code 133 = .ok (.iload 6, 2) := by decide +kernel
theorem d_Resolver_resolveFields_135 : decode prog_4_method_10_code 135 = .ok (.invokevirtual 149, 3) := by decide +kernel
theorem d_Resolver_resolveFields_138 : decode prog_4_method_10_code 138 = .ok (.istore 6, 2) := by decide +kernel
theorem d_Resolver_resolveFields_140 : decode prog_4_method_10_code 140 = .ok (.iload 6, 2) := by decide +kernel
theorem d_Resolver_resolveFields_142 : decode prog_4_method_10_code 142 = .ok (.iconst (-1), 1) := by decide +kernel
theorem d_Resolver_resolveFields_143 : decode prog_4_method_10_code 143 = .ok (.if_icmp .ne 22, 3) := by decide +kernel
theorem d_Resolver_resolveFields_146 : decode prog_4_method_10_code 146 = .ok (.aload_n 0, 1) := by decide +kernel
theorem d_Resolver_resolveFields_147 : decode prog_4_method_10_code 147 = .ok (.getfield 9, 3) := by decide +kernel
theorem d_Resolver_resolveFields_150 : decode prog_4_method_10_code 150 = .ok (.iload 5, 2) := by decide +kernel
theorem d_Resolver_resolveFields_152 : decode prog_4_method_10_code 152 = .ok (.invokevirtual 39, 3) := by decide +kernel
theorem d_Resolver_resolveFields_155 : decode prog_4_method_10_code 155 = .ok (.aload_n 0, 1) := by decide +kernel
theorem d_Resolver_resolveFields_156 : decode prog_4_method_10_code 156 = .ok (.getfield 22, 3) := by decide +kernel
theorem d_Resolver_resolveFields_159 : decode prog_4_method_10_code 159 = .ok (.bipush 125, 2) := by decide +kernel
theorem d_Resolver_resolveFields_161 : decode prog_4_method_10_code 161 = .ok (.invokevirtual 63, 3) := by decide +kernel
theorem d_Resolver_resolveFields_164 : decode prog_4_method_10_code 164 = .ok (.ireturn, 1) := by decide +kernel
theorem d_Resolver_resolveFields_165 : decode prog_4_method_10_code 165 = .ok (.aload_n 0, 1) := by decide +kernel
theorem d_Resolver_resolveFields_166 : decode prog_4_method_10_code 166 = .ok (.getfield 22, 3) := by decide +kernel
theorem d_Resolver_resolveFields_169 : decode prog_4_method_10_code 169 = .ok (.bipush 44, 2) := by decide +kernel
theorem d_Resolver_resolveFields_171 : decode prog_4_method_10_code 171 = .ok (.invokevirtual 63, 3) := by decide +kernel
theorem d_Resolver_resolveFields_174 : decode prog_4_method_10_code 174 = .ok (.ifCond .ne 5, 3) := by decide +kernel
theorem d_Resolver_resolveFields_177 : decode prog_4_method_10_code 177 = .ok (.iconst 0, 1) := by decide +kernel
theorem d_Resolver_resolveFields_178 : decode prog_4_method_10_code 178 = .ok (.ireturn, 1) := by decide +kernel
theorem d_Resolver_resolveFields_179 : decode prog_4_method_10_code 179 = .ok (.iinc 7 1, 3) := by decide +kernel
theorem d_Resolver_resolveFields_182 : decode prog_4_method_10_code 182 = .ok (.goto (-73), 3) := by decide +kernel
theorem d_Resolver_resolveFields_185 : decode prog_4_method_10_code 185 = .ok (.iconst 0, 1) := by decide +kernel
theorem d_Resolver_resolveFields_186 : decode prog_4_method_10_code 186 = .ok (.ireturn, 1) := by decide +kernel
def Resolver_resolveFields_bd109 (call : ax_Cf)  (k109 : Option Nat → Int32 → Int32 → Int32 → Int32 → Int32 → ax_Hp → ax_O) (x0 : Option Nat) (x1 : Int32) (x3 : Int32) (x5 : Int32) (x6 : Int32) (x7 : Int32) (h : ax_Hp) : ax_O :=
  if 6 ≤ x7 then
    ax_rz 0 h
  else
    ax_on h x0 1 <| ax_ci (call 138 [ax_A x0, ax_I x1, ax_I x6, ax_I x3] h) fun v14 h13 =>
    if v14 = 0 then
      ax_rz 0 h13
    else
      (ax_gr h13 x0 1 3).bind fun v15 =>
      ax_on h13 v15 3 <| ax_ci (call 63 [ax_A v15, ax_I x6] h13) fun v17 h16 =>
      if v17 = (-1) then
        (ax_gr h16 x0 1 0).bind fun v21 =>
        ax_on h16 v21 0 <| ax_cv (call 125 [ax_A v21, ax_I x5] h16) fun h22 =>
        (ax_gr h22 x0 1 4).bind fun v24 =>
        ax_on h22 v24 2 <| ax_ci (call 8 [ax_A v24, ax_I 125] h22) fun v26 h25 =>
        ax_rz v26 h25
      else
        (ax_gr h16 x0 1 4).bind fun v18 =>
        ax_on h16 v18 2 <| ax_ci (call 8 [ax_A v18, ax_I 44] h16) fun v20 h19 =>
        if v20 = 0 then
          ax_rz 0 h19
        else
          k109 x0 x1 x3 x5 v17 (x7 + 1) h19
def Resolver_resolveFields_lp109 (call : ax_Cf)  : Nat → Option Nat → Int32 → Int32 → Int32 → Int32 → Int32 → ax_Hp → ax_O
  | 0 => fun _ _ _ _ _ _ _ => none
  | n + 1 => Resolver_resolveFields_bd109 call  (Resolver_resolveFields_lp109 call  n)
set_option maxHeartbeats 4000000 in
set_option maxRecDepth 20000 in
theorem Resolver_resolveFields_lb109 {l : Launch} {G : ax_G} {d : Nat} {call : ax_Cf} (hcall : ax_Hc l G d call) {p : Program} {e : Env} {s : State} {mi : MethodId} {args : Array Value} {below : List Frame} {meth : Method} {c : Code} {h0 : ax_Hp} (B : ax_B G p s mi meth c "SchemaDesk$Resolver" prog_4_method_10_code 8 (some (.boolean))) (E : c.exceptionTable.isEmpty = true) (Nm : meth.name = y_Resolver_resolveFields.name)   {k109 : Option Nat → Int32 → Int32 → Int32 → Int32 → Int32 → ax_Hp → ax_O} (hk109 : ∀ (x0 : Option Nat) (x1 : Int32) (x3 : Int32) (x5 : Int32) (x6 : Int32) (x7 : Int32) (h : ax_Hp), ax_W G p l e s mi args below meth c 8 (d + 1) h0 109 [(0, ax_A x0), (1, ax_I x1), (3, ax_I x3), (5, ax_I x5), (6, ax_I x6), (7, ax_I x7)] [] h (k109 x0 x1 x3 x5 x6 x7 h)) (x0 : Option Nat) (x1 : Int32) (x3 : Int32) (x5 : Int32) (x6 : Int32) (x7 : Int32) (h : ax_Hp) : ax_W G p l e s mi args below meth c 8 (d + 1) h0 109 [(0, ax_A x0), (1, ax_I x1), (3, ax_I x3), (5, ax_I x5), (6, ax_I x6), (7, ax_I x7)] [] h (Resolver_resolveFields_bd109 call  k109 x0 x1 x3 x5 x6 x7 h) := by
  unfold Resolver_resolveFields_bd109
  refine ax_iload B 5 d_Resolver_resolveFields_109 rfl ?_
  refine ax_bipush (v := 6) B d_Resolver_resolveFields_111 (by decide) ?_
  refine ax_icmp_ge B 185 d_Resolver_resolveFields_113 (by decide) ?_ ?_
  · refine ax_iconst (v := 0) B d_Resolver_resolveFields_185 (by decide) ?_
    exact ax_zreturn B d_Resolver_resolveFields_186
  · refine ax_aload_n B 0 d_Resolver_resolveFields_116 rfl rfl ?_
    refine ax_iload_n B 1 d_Resolver_resolveFields_117 rfl rfl ?_
    refine ax_iload B 4 d_Resolver_resolveFields_118 rfl ?_
    refine ax_iload_n B 2 d_Resolver_resolveFields_120 rfl rfl ?_
    refine ax_callVi (av := [ax_I x1, ax_I x6, ax_I x3]) (rest := []) B E hm_Resolver_resolveField cl_Resolver rfl wd_853 wp_36 lk_Resolver_155 d_Resolver_resolveFields_121 rfl (Nat.le_of_ble_eq_true rfl) (fun _ _ hh => hcall 138 _ _ _ _ hh) (fun v14 h13 => ?_)
    refine ax_if_ne B 129 d_Resolver_resolveFields_124 (by decide) ?_ ?_
    · refine ax_aload_n B 0 d_Resolver_resolveFields_129 rfl rfl ?_
      refine ax_getfr B cl_Resolver (by decide) fk_Resolver_19 d_Resolver_resolveFields_130 (fun v15 => ?_)
      refine ax_iload B 4 d_Resolver_resolveFields_133 rfl ?_
      refine ax_callVi (av := [ax_I x6]) (rest := []) B E hm_Schema_nextPart cl_Schema rfl wd_452 wd_453 lk_Resolver_149 d_Resolver_resolveFields_135 rfl (Nat.le_of_ble_eq_true rfl) (fun _ _ hh => hcall 63 _ _ _ _ hh) (fun v17 h16 => ?_)
      refine ax_istore (tv2 := [(6, ax_I v17), (0, ax_A x0), (1, ax_I x1), (3, ax_I x3), (5, ax_I x5), (7, ax_I x7)]) B d_Resolver_resolveFields_138 (by decide) rfl ?_
      refine ax_iload B 0 d_Resolver_resolveFields_140 rfl ?_
      refine ax_iconst (v := (-1)) B d_Resolver_resolveFields_142 (by decide) ?_
      refine ax_icmp_ne B 165 d_Resolver_resolveFields_143 (by decide) ?_ ?_
      · refine ax_aload_n B 1 d_Resolver_resolveFields_165 rfl rfl ?_
        refine ax_getfr B cl_Resolver (by decide) fk_Resolver_22 d_Resolver_resolveFields_166 (fun v18 => ?_)
        refine ax_bipush (v := 44) B d_Resolver_resolveFields_169 (by decide) ?_
        refine ax_callVi (av := [ax_I 44]) (rest := []) B E hm_Row_add cl_Row rfl wd_123 wd_124 lk_Resolver_63 d_Resolver_resolveFields_171 rfl (Nat.le_of_ble_eq_true rfl) (fun _ _ hh => hcall 8 _ _ _ _ hh) (fun v20 h19 => ?_)
        refine ax_if_ne B 179 d_Resolver_resolveFields_174 (by decide) ?_ ?_
        · refine ax_iinc (v := x7 + 1) (tv2 := [(7, ax_I (x7 + 1)), (6, ax_I v17), (0, ax_A x0), (1, ax_I x1), (3, ax_I x3), (5, ax_I x5)]) B 5 d_Resolver_resolveFields_179 rfl (congrArg (_ + ·) (by decide)) (by decide) rfl ?_
          refine ax_goto B 109 d_Resolver_resolveFields_182 (by decide) ?_
          refine ax_sub (tv2 := [(0, ax_A x0), (1, ax_I x1), (3, ax_I x3), (5, ax_I x5), (6, ax_I v17), (7, ax_I (x7 + 1))]) [2, 3, 4, 5, 1, 0] rfl ?_
          exact hk109 x0 x1 x3 x5 v17 (x7 + 1) h19
        · refine ax_iconst (v := 0) B d_Resolver_resolveFields_177 (by decide) ?_
          exact ax_zreturn B d_Resolver_resolveFields_178
      · refine ax_aload_n B 1 d_Resolver_resolveFields_146 rfl rfl ?_
        refine ax_getfr B cl_Resolver (by decide) fk_Resolver_9 d_Resolver_resolveFields_147 (fun v21 => ?_)
        refine ax_iload B 4 d_Resolver_resolveFields_150 rfl ?_
        refine ax_callVv (av := [ax_I x5]) (rest := []) B E hm_Cursor_moveTo cl_Cursor rfl wd_783 wd_784 lk_Resolver_39 d_Resolver_resolveFields_152 rfl (Nat.le_of_ble_eq_true rfl) (fun _ _ hh => hcall 125 _ _ _ _ hh) (fun h22 => ?_)
        refine ax_aload_n B 1 d_Resolver_resolveFields_155 rfl rfl ?_
        refine ax_getfr B cl_Resolver (by decide) fk_Resolver_22 d_Resolver_resolveFields_156 (fun v24 => ?_)
        refine ax_bipush (v := 125) B d_Resolver_resolveFields_159 (by decide) ?_
        refine ax_callVi (av := [ax_I 125]) (rest := []) B E hm_Row_add cl_Row rfl wd_123 wd_124 lk_Resolver_63 d_Resolver_resolveFields_161 rfl (Nat.le_of_ble_eq_true rfl) (fun _ _ hh => hcall 8 _ _ _ _ hh) (fun v26 h25 => ?_)
        exact ax_zreturn B d_Resolver_resolveFields_164
    · refine ax_iconst (v := 0) B d_Resolver_resolveFields_127 (by decide) ?_
      exact ax_zreturn B d_Resolver_resolveFields_128
theorem Resolver_resolveFields_lq109 {l : Launch} {G : ax_G} {d : Nat} {call : ax_Cf} (hcall : ax_Hc l G d call) {p : Program} {e : Env} {s : State} {mi : MethodId} {args : Array Value} {below : List Frame} {meth : Method} {c : Code} {h0 : ax_Hp} (B : ax_B G p s mi meth c "SchemaDesk$Resolver" prog_4_method_10_code 8 (some (.boolean))) (E : c.exceptionTable.isEmpty = true) (Nm : meth.name = y_Resolver_resolveFields.name)   : ∀ (n : Nat) (x0 : Option Nat) (x1 : Int32) (x3 : Int32) (x5 : Int32) (x6 : Int32) (x7 : Int32) (h : ax_Hp), ax_W G p l e s mi args below meth c 8 (d + 1) h0 109 [(0, ax_A x0), (1, ax_I x1), (3, ax_I x3), (5, ax_I x5), (6, ax_I x6), (7, ax_I x7)] [] h (Resolver_resolveFields_lp109 call  n x0 x1 x3 x5 x6 x7 h)
  | 0, _, _, _, _, _, _, _ => ax_none
  | n + 1, x0, x1, x3, x5, x6, x7, h => Resolver_resolveFields_lb109 hcall B E Nm   (Resolver_resolveFields_lq109 hcall B E Nm   n) x0 x1 x3 x5 x6 x7 h
def Resolver_resolveFields_bd13 (call : ax_Cf)  (k13 : Option Nat → Int32 → Int32 → Int32 → Int32 → Int32 → ax_Hp → ax_O) (x0 : Option Nat) (x1 : Int32) (x2 : Int32) (x3 : Int32) (x4 : Int32) (x5 : Int32) (h : ax_Hp) : ax_O :=
  if 6 ≤ x5 then
    (ax_gr h x0 1 0).bind fun v4 =>
    ax_on h v4 0 <| ax_ci (call 27 [ax_A v4] h) fun v6 h5 =>
    (ax_gr h5 x0 1 4).bind fun v7 =>
    ax_on h5 v7 2 <| ax_ci (call 8 [ax_A v7, ax_I 123] h5) fun v9 h8 =>
    if v9 = 0 then
      ax_rz 0 h8
    else
      (ax_gr h8 x0 1 3).bind fun v10 =>
      ax_on h8 v10 3 <| ax_ci (call 60 [ax_A v10, ax_I x2] h8) fun v12 h11 =>
      Resolver_resolveFields_lp109 call ax_fuel x0 x1 x3 v6 v12 0 h11
  else
    if x4 = (-1) then
      (ax_gr h x0 1 0).bind fun v27 =>
      ax_on h v27 0 <| ax_ci (call 27 [ax_A v27] h) fun v29 h28 =>
      (ax_gr h28 x0 1 4).bind fun v30 =>
      ax_on h28 v30 2 <| ax_ci (call 8 [ax_A v30, ax_I 123] h28) fun v32 h31 =>
      if v32 = 0 then
        ax_rz 0 h31
      else
        (ax_gr h31 x0 1 3).bind fun v33 =>
        ax_on h31 v33 3 <| ax_ci (call 60 [ax_A v33, ax_I x2] h31) fun v35 h34 =>
        Resolver_resolveFields_lp109 call ax_fuel x0 x1 x3 v29 v35 0 h34
    else
      ax_on h x0 1 <| ax_ci (call 136 [ax_A x0, ax_I x4] h) fun v37 h36 =>
      if v37 = 0 then
        ax_rz 0 h36
      else
        (ax_gr h36 x0 1 1).bind fun v38 =>
        (ax_gr h36 x0 1 2).bind fun v39 =>
        ax_on h36 v39 3 <| ax_ci (call 65 [ax_A v39, ax_I x4] h36) fun v41 h40 =>
        ax_on h40 v38 5 <| ax_ci (call 137 [ax_A v38, ax_I v41] h40) fun v43 h42 =>
        if v43 = 0 then
          ax_rz 0 h42
        else
          (ax_gr h42 x0 1 2).bind fun v44 =>
          ax_on h42 v44 3 <| ax_ci (call 63 [ax_A v44, ax_I x4] h42) fun v46 h45 =>
          k13 x0 x1 x2 x3 v46 (x5 + 1) h45
def Resolver_resolveFields_lp13 (call : ax_Cf)  : Nat → Option Nat → Int32 → Int32 → Int32 → Int32 → Int32 → ax_Hp → ax_O
  | 0 => fun _ _ _ _ _ _ _ => none
  | n + 1 => Resolver_resolveFields_bd13 call  (Resolver_resolveFields_lp13 call  n)
set_option maxHeartbeats 4000000 in
set_option maxRecDepth 20000 in
theorem Resolver_resolveFields_lb13 {l : Launch} {G : ax_G} {d : Nat} {call : ax_Cf} (hcall : ax_Hc l G d call) {p : Program} {e : Env} {s : State} {mi : MethodId} {args : Array Value} {below : List Frame} {meth : Method} {c : Code} {h0 : ax_Hp} (B : ax_B G p s mi meth c "SchemaDesk$Resolver" prog_4_method_10_code 8 (some (.boolean))) (E : c.exceptionTable.isEmpty = true) (Nm : meth.name = y_Resolver_resolveFields.name)   {k13 : Option Nat → Int32 → Int32 → Int32 → Int32 → Int32 → ax_Hp → ax_O} (hk13 : ∀ (x0 : Option Nat) (x1 : Int32) (x2 : Int32) (x3 : Int32) (x4 : Int32) (x5 : Int32) (h : ax_Hp), ax_W G p l e s mi args below meth c 8 (d + 1) h0 13 [(0, ax_A x0), (1, ax_I x1), (2, ax_I x2), (3, ax_I x3), (4, ax_I x4), (5, ax_I x5)] [] h (k13 x0 x1 x2 x3 x4 x5 h)) (x0 : Option Nat) (x1 : Int32) (x2 : Int32) (x3 : Int32) (x4 : Int32) (x5 : Int32) (h : ax_Hp) : ax_W G p l e s mi args below meth c 8 (d + 1) h0 13 [(0, ax_A x0), (1, ax_I x1), (2, ax_I x2), (3, ax_I x3), (4, ax_I x4), (5, ax_I x5)] [] h (Resolver_resolveFields_bd13 call  k13 x0 x1 x2 x3 x4 x5 h) := by
  unfold Resolver_resolveFields_bd13
  refine ax_iload B 5 d_Resolver_resolveFields_13 rfl ?_
  refine ax_bipush (v := 6) B d_Resolver_resolveFields_15 (by decide) ?_
  refine ax_icmp_ge B 73 d_Resolver_resolveFields_17 (by decide) ?_ ?_
  · refine ax_aload_n B 0 d_Resolver_resolveFields_73 rfl rfl ?_
    refine ax_getfr B cl_Resolver (by decide) fk_Resolver_9 d_Resolver_resolveFields_74 (fun v4 => ?_)
    refine ax_callVi (av := []) (rest := []) B E hm_Cursor_at cl_Cursor rfl wd_302 wd_303 lk_Resolver_152 d_Resolver_resolveFields_77 rfl (Nat.le_of_ble_eq_true rfl) (fun _ _ hh => hcall 27 _ _ _ _ hh) (fun v6 h5 => ?_)
    refine ax_istore (tv2 := [(5, ax_I v6), (0, ax_A x0), (1, ax_I x1), (2, ax_I x2), (3, ax_I x3), (4, ax_I x4)]) B d_Resolver_resolveFields_80 (by decide) rfl ?_
    refine ax_aload_n B 1 d_Resolver_resolveFields_82 rfl rfl ?_
    refine ax_getfr B cl_Resolver (by decide) fk_Resolver_22 d_Resolver_resolveFields_83 (fun v7 => ?_)
    refine ax_bipush (v := 123) B d_Resolver_resolveFields_86 (by decide) ?_
    refine ax_callVi (av := [ax_I 123]) (rest := []) B E hm_Row_add cl_Row rfl wd_123 wd_124 lk_Resolver_63 d_Resolver_resolveFields_88 rfl (Nat.le_of_ble_eq_true rfl) (fun _ _ hh => hcall 8 _ _ _ _ hh) (fun v9 h8 => ?_)
    refine ax_if_ne B 96 d_Resolver_resolveFields_91 (by decide) ?_ ?_
    · refine ax_aload_n B 1 d_Resolver_resolveFields_96 rfl rfl ?_
      refine ax_getfr B cl_Resolver (by decide) fk_Resolver_19 d_Resolver_resolveFields_97 (fun v10 => ?_)
      refine ax_iload_n B 3 d_Resolver_resolveFields_100 rfl rfl ?_
      refine ax_callVi (av := [ax_I x2]) (rest := []) B E hm_Schema_firstPart cl_Schema rfl wd_439 wd_440 lk_Resolver_137 d_Resolver_resolveFields_101 rfl (Nat.le_of_ble_eq_true rfl) (fun _ _ hh => hcall 60 _ _ _ _ hh) (fun v12 h11 => ?_)
      refine ax_istore (tv2 := [(6, ax_I v12), (5, ax_I v6), (0, ax_A x0), (1, ax_I x1), (2, ax_I x2), (3, ax_I x3), (4, ax_I x4)]) B d_Resolver_resolveFields_104 (by decide) rfl ?_
      refine ax_iconst (v := 0) B d_Resolver_resolveFields_106 (by decide) ?_
      refine ax_istore (tv2 := [(7, ax_I 0), (6, ax_I v12), (5, ax_I v6), (0, ax_A x0), (1, ax_I x1), (2, ax_I x2), (3, ax_I x3), (4, ax_I x4)]) B d_Resolver_resolveFields_107 (by decide) rfl ?_
      refine ax_sub (tv2 := [(0, ax_A x0), (1, ax_I x1), (3, ax_I x3), (5, ax_I v6), (6, ax_I v12), (7, ax_I 0)]) [3, 4, 6, 2, 1, 0] rfl ?_
      exact Resolver_resolveFields_lq109 hcall B E Nm ax_fuel x0 x1 x3 v6 v12 0 h11
    · refine ax_iconst (v := 0) B d_Resolver_resolveFields_94 (by decide) ?_
      exact ax_zreturn B d_Resolver_resolveFields_95
  · refine ax_iload B 4 d_Resolver_resolveFields_20 rfl ?_
    refine ax_iconst (v := (-1)) B d_Resolver_resolveFields_22 (by decide) ?_
    refine ax_icmp_eq B 73 d_Resolver_resolveFields_23 (by decide) ?_ ?_
    · refine ax_aload_n B 0 d_Resolver_resolveFields_73 rfl rfl ?_
      refine ax_getfr B cl_Resolver (by decide) fk_Resolver_9 d_Resolver_resolveFields_74 (fun v27 => ?_)
      refine ax_callVi (av := []) (rest := []) B E hm_Cursor_at cl_Cursor rfl wd_302 wd_303 lk_Resolver_152 d_Resolver_resolveFields_77 rfl (Nat.le_of_ble_eq_true rfl) (fun _ _ hh => hcall 27 _ _ _ _ hh) (fun v29 h28 => ?_)
      refine ax_istore (tv2 := [(5, ax_I v29), (0, ax_A x0), (1, ax_I x1), (2, ax_I x2), (3, ax_I x3), (4, ax_I x4)]) B d_Resolver_resolveFields_80 (by decide) rfl ?_
      refine ax_aload_n B 1 d_Resolver_resolveFields_82 rfl rfl ?_
      refine ax_getfr B cl_Resolver (by decide) fk_Resolver_22 d_Resolver_resolveFields_83 (fun v30 => ?_)
      refine ax_bipush (v := 123) B d_Resolver_resolveFields_86 (by decide) ?_
      refine ax_callVi (av := [ax_I 123]) (rest := []) B E hm_Row_add cl_Row rfl wd_123 wd_124 lk_Resolver_63 d_Resolver_resolveFields_88 rfl (Nat.le_of_ble_eq_true rfl) (fun _ _ hh => hcall 8 _ _ _ _ hh) (fun v32 h31 => ?_)
      refine ax_if_ne B 96 d_Resolver_resolveFields_91 (by decide) ?_ ?_
      · refine ax_aload_n B 1 d_Resolver_resolveFields_96 rfl rfl ?_
        refine ax_getfr B cl_Resolver (by decide) fk_Resolver_19 d_Resolver_resolveFields_97 (fun v33 => ?_)
        refine ax_iload_n B 3 d_Resolver_resolveFields_100 rfl rfl ?_
        refine ax_callVi (av := [ax_I x2]) (rest := []) B E hm_Schema_firstPart cl_Schema rfl wd_439 wd_440 lk_Resolver_137 d_Resolver_resolveFields_101 rfl (Nat.le_of_ble_eq_true rfl) (fun _ _ hh => hcall 60 _ _ _ _ hh) (fun v35 h34 => ?_)
        refine ax_istore (tv2 := [(6, ax_I v35), (5, ax_I v29), (0, ax_A x0), (1, ax_I x1), (2, ax_I x2), (3, ax_I x3), (4, ax_I x4)]) B d_Resolver_resolveFields_104 (by decide) rfl ?_
        refine ax_iconst (v := 0) B d_Resolver_resolveFields_106 (by decide) ?_
        refine ax_istore (tv2 := [(7, ax_I 0), (6, ax_I v35), (5, ax_I v29), (0, ax_A x0), (1, ax_I x1), (2, ax_I x2), (3, ax_I x3), (4, ax_I x4)]) B d_Resolver_resolveFields_107 (by decide) rfl ?_
        refine ax_sub (tv2 := [(0, ax_A x0), (1, ax_I x1), (3, ax_I x3), (5, ax_I v29), (6, ax_I v35), (7, ax_I 0)]) [3, 4, 6, 2, 1, 0] rfl ?_
        exact Resolver_resolveFields_lq109 hcall B E Nm ax_fuel x0 x1 x3 v29 v35 0 h34
      · refine ax_iconst (v := 0) B d_Resolver_resolveFields_94 (by decide) ?_
        exact ax_zreturn B d_Resolver_resolveFields_95
    · refine ax_aload_n B 0 d_Resolver_resolveFields_26 rfl rfl ?_
      refine ax_iload B 4 d_Resolver_resolveFields_27 rfl ?_
      refine ax_callVi (av := [ax_I x4]) (rest := []) B E hm_Resolver_noteFieldStart cl_Resolver rfl wd_842 wp_35 lk_Resolver_140 d_Resolver_resolveFields_29 rfl (Nat.le_of_ble_eq_true rfl) (fun _ _ hh => hcall 136 _ _ _ _ hh) (fun v37 h36 => ?_)
      refine ax_if_eq B 54 d_Resolver_resolveFields_32 (by decide) ?_ ?_
      · refine ax_iconst (v := 0) B d_Resolver_resolveFields_54 (by decide) ?_
        exact ax_zreturn B d_Resolver_resolveFields_55
      · refine ax_aload_n B 0 d_Resolver_resolveFields_35 rfl rfl ?_
        refine ax_getfr B cl_Resolver (by decide) fk_Resolver_35 d_Resolver_resolveFields_36 (fun v38 => ?_)
        refine ax_aload_n B 0 d_Resolver_resolveFields_39 rfl rfl ?_
        refine ax_getfr B cl_Resolver (by decide) fk_Resolver_15 d_Resolver_resolveFields_40 (fun v39 => ?_)
        refine ax_iload B 4 d_Resolver_resolveFields_43 rfl ?_
        refine ax_callVi (av := [ax_I x4]) (rest := [ax_A v38]) B E hm_Schema_fieldType cl_Schema rfl wd_460 wd_461 lk_Resolver_143 d_Resolver_resolveFields_45 rfl (Nat.le_of_ble_eq_true rfl) (fun _ _ hh => hcall 65 _ _ _ _ hh) (fun v41 h40 => ?_)
        refine ax_callVi (av := [ax_I v41]) (rest := []) B E hm_StreamReader_skipField cl_StreamReader rfl wd_847 wd_848 lk_Resolver_146 d_Resolver_resolveFields_48 rfl (Nat.le_of_ble_eq_true rfl) (fun _ _ hh => hcall 137 _ _ _ _ hh) (fun v43 h42 => ?_)
        refine ax_if_ne B 56 d_Resolver_resolveFields_51 (by decide) ?_ ?_
        · refine ax_aload_n B 0 d_Resolver_resolveFields_56 rfl rfl ?_
          refine ax_getfr B cl_Resolver (by decide) fk_Resolver_15 d_Resolver_resolveFields_57 (fun v44 => ?_)
          refine ax_iload B 4 d_Resolver_resolveFields_60 rfl ?_
          refine ax_callVi (av := [ax_I x4]) (rest := []) B E hm_Schema_nextPart cl_Schema rfl wd_452 wd_453 lk_Resolver_149 d_Resolver_resolveFields_62 rfl (Nat.le_of_ble_eq_true rfl) (fun _ _ hh => hcall 63 _ _ _ _ hh) (fun v46 h45 => ?_)
          refine ax_istore (tv2 := [(4, ax_I v46), (0, ax_A x0), (1, ax_I x1), (2, ax_I x2), (3, ax_I x3), (5, ax_I x5)]) B d_Resolver_resolveFields_65 (by decide) rfl ?_
          refine ax_iinc (v := x5 + 1) (tv2 := [(5, ax_I (x5 + 1)), (4, ax_I v46), (0, ax_A x0), (1, ax_I x1), (2, ax_I x2), (3, ax_I x3)]) B 5 d_Resolver_resolveFields_67 rfl (congrArg (_ + ·) (by decide)) (by decide) rfl ?_
          refine ax_goto B 13 d_Resolver_resolveFields_70 (by decide) ?_
          refine ax_sub (tv2 := [(0, ax_A x0), (1, ax_I x1), (2, ax_I x2), (3, ax_I x3), (4, ax_I v46), (5, ax_I (x5 + 1))]) [2, 3, 4, 5, 1, 0] rfl ?_
          exact hk13 x0 x1 x2 x3 v46 (x5 + 1) h45
        · refine ax_iconst (v := 0) B d_Resolver_resolveFields_54 (by decide) ?_
          exact ax_zreturn B d_Resolver_resolveFields_55
theorem Resolver_resolveFields_lq13 {l : Launch} {G : ax_G} {d : Nat} {call : ax_Cf} (hcall : ax_Hc l G d call) {p : Program} {e : Env} {s : State} {mi : MethodId} {args : Array Value} {below : List Frame} {meth : Method} {c : Code} {h0 : ax_Hp} (B : ax_B G p s mi meth c "SchemaDesk$Resolver" prog_4_method_10_code 8 (some (.boolean))) (E : c.exceptionTable.isEmpty = true) (Nm : meth.name = y_Resolver_resolveFields.name)   : ∀ (n : Nat) (x0 : Option Nat) (x1 : Int32) (x2 : Int32) (x3 : Int32) (x4 : Int32) (x5 : Int32) (h : ax_Hp), ax_W G p l e s mi args below meth c 8 (d + 1) h0 13 [(0, ax_A x0), (1, ax_I x1), (2, ax_I x2), (3, ax_I x3), (4, ax_I x4), (5, ax_I x5)] [] h (Resolver_resolveFields_lp13 call  n x0 x1 x2 x3 x4 x5 h)
  | 0, _, _, _, _, _, _, _ => ax_none
  | n + 1, x0, x1, x2, x3, x4, x5, h => Resolver_resolveFields_lb13 hcall B E Nm   (Resolver_resolveFields_lq13 hcall B E Nm   n) x0 x1 x2 x3 x4 x5 h
def Resolver_resolveFields_b (call : ax_Cf) (x0 : Option Nat) (x1 : Int32) (x2 : Int32) (x3 : Int32) (h : ax_Hp) : ax_O :=
  (ax_gr h x0 1 2).bind fun v1 =>
  ax_on h v1 3 <| ax_ci (call 60 [ax_A v1, ax_I x1] h) fun v3 h2 =>
  Resolver_resolveFields_lp13 call ax_fuel x0 x1 x2 x3 v3 0 h2
set_option maxHeartbeats 4000000 in
set_option maxRecDepth 20000 in
theorem Resolver_resolveFields_t {l : Launch} {G : ax_G} {d : Nat} {call : ax_Cf} (hcall : ax_Hc l G d call) (x0 : Option Nat) (x1 : Int32) (x2 : Int32) (x3 : Int32) (h : ax_Hp) {r : ax_Rs} {h' : ax_Hp} (ho : Resolver_resolveFields_b call x0 x1 x2 x3 h = some (r, h')) : ax_C l G (d + 1) y_Resolver_resolveFields (.code y_Resolver_resolveFields prog_4_method_10_code 8 (some (.boolean))) [ax_A x0, ax_I x1, ax_I x2, ax_I x3] h r h' := by
  refine ax_enter (by decide) (Nat.le_of_ble_eq_true rfl) ho (fun p e s mi args below meth c B E Nm => ?_)
  have B : ax_B G p s mi meth c "SchemaDesk$Resolver" prog_4_method_10_code 8 (some (.boolean)) := B
  show ax_W G p l e s mi args below meth c 8 (d + 1) h 0 [(0, ax_A x0), (1, ax_I x1), (2, ax_I x2), (3, ax_I x3)] [] h (Resolver_resolveFields_b call x0 x1 x2 x3 h)
  unfold Resolver_resolveFields_b
  refine ax_aload_n B 0 d_Resolver_resolveFields_0 rfl rfl ?_
  refine ax_getfr B cl_Resolver (by decide) fk_Resolver_15 d_Resolver_resolveFields_1 (fun v1 => ?_)
  refine ax_iload_n B 1 d_Resolver_resolveFields_4 rfl rfl ?_
  refine ax_callVi (av := [ax_I x1]) (rest := []) B E hm_Schema_firstPart cl_Schema rfl wd_439 wd_440 lk_Resolver_137 d_Resolver_resolveFields_5 rfl (Nat.le_of_ble_eq_true rfl) (fun _ _ hh => hcall 60 _ _ _ _ hh) (fun v3 h2 => ?_)
  refine ax_istore (tv2 := [(4, ax_I v3), (0, ax_A x0), (1, ax_I x1), (2, ax_I x2), (3, ax_I x3)]) B d_Resolver_resolveFields_8 (by decide) rfl ?_
  refine ax_iconst (v := 0) B d_Resolver_resolveFields_10 (by decide) ?_
  refine ax_istore (tv2 := [(5, ax_I 0), (4, ax_I v3), (0, ax_A x0), (1, ax_I x1), (2, ax_I x2), (3, ax_I x3)]) B d_Resolver_resolveFields_11 (by decide) rfl ?_
  refine ax_sub (tv2 := [(0, ax_A x0), (1, ax_I x1), (2, ax_I x2), (3, ax_I x3), (4, ax_I v3), (5, ax_I 0)]) [2, 3, 4, 5, 1, 0] rfl ?_
  exact Resolver_resolveFields_lq13 hcall B E Nm ax_fuel x0 x1 x2 x3 v3 0 h2

theorem d_Resolver_noteFieldStart_0 : decode prog_4_method_11_code 0 = .ok (.iload_n 1, 1) := by decide +kernel
theorem d_Resolver_noteFieldStart_1 : decode prog_4_method_11_code 1 = .ok (.ifCond .lt 12, 3) := by decide +kernel
theorem d_Resolver_noteFieldStart_4 : decode prog_4_method_11_code 4 = .ok (.iload_n 1, 1) := by decide +kernel
theorem d_Resolver_noteFieldStart_5 : decode prog_4_method_11_code 5 = .ok (.aload_n 0, 1) := by decide +kernel
theorem d_Resolver_noteFieldStart_6 : decode prog_4_method_11_code 6 = .ok (.getfield 26, 3) := by decide +kernel
theorem d_Resolver_noteFieldStart_9 : decode prog_4_method_11_code 9 = .ok (.arraylength, 1) := by decide +kernel
theorem d_Resolver_noteFieldStart_10 : decode prog_4_method_11_code 10 = .ok (.if_icmp .lt 5, 3) := by decide +kernel
theorem d_Resolver_noteFieldStart_13 : decode prog_4_method_11_code 13 = .ok (.iconst 0, 1) := by decide +kernel
theorem d_Resolver_noteFieldStart_14 : decode prog_4_method_11_code 14 = .ok (.ireturn, 1) := by decide +kernel
theorem d_Resolver_noteFieldStart_15 : decode prog_4_method_11_code 15 = .ok (.aload_n 0, 1) := by decide +kernel
theorem d_Resolver_noteFieldStart_16 : decode prog_4_method_11_code 16 = .ok (.getfield 26, 3) := by decide +kernel
theorem d_Resolver_noteFieldStart_19 : decode prog_4_method_11_code 19 = .ok (.iload_n 1, 1) := by decide +kernel
theorem d_Resolver_noteFieldStart_20 : decode prog_4_method_11_code 20 = .ok (.aload_n 0, 1) := by decide +kernel
theorem d_Resolver_noteFieldStart_21 : decode prog_4_method_11_code 21 = .ok (.getfield 9, 3) := by decide +kernel
theorem d_Resolver_noteFieldStart_24 : decode prog_4_method_11_code 24 = .ok (.invokevirtual 152, 3) := by decide +kernel
theorem d_Resolver_noteFieldStart_27 : decode prog_4_method_11_code 27 = .ok (.iastore, 1) := by decide +kernel
theorem d_Resolver_noteFieldStart_28 : decode prog_4_method_11_code 28 = .ok (.iconst 1, 1) := by decide +kernel
theorem d_Resolver_noteFieldStart_29 : decode prog_4_method_11_code 29 = .ok (.ireturn, 1) := by decide +kernel
def Resolver_noteFieldStart_b (call : ax_Cf) (x0 : Option Nat) (x1 : Int32) (h : ax_Hp) : ax_O :=
  if x1 < 0 then
    ax_rz 0 h
  else
    (ax_gr h x0 1 5).bind fun v1 =>
    (ax_len h v1 1).bind fun v2 =>
    if x1 < v2 then
      (ax_gr h x0 1 5).bind fun v3 =>
      (ax_gr h x0 1 0).bind fun v4 =>
      ax_on h v4 0 <| ax_ci (call 27 [ax_A v4] h) fun v6 h5 =>
      (ax_st h5 v3 1 x1 (ax_I v6)).bind fun h7 =>
      ax_rz 1 h7
    else
      ax_rz 0 h
set_option maxHeartbeats 4000000 in
set_option maxRecDepth 20000 in
theorem Resolver_noteFieldStart_t {l : Launch} {G : ax_G} {d : Nat} {call : ax_Cf} (hcall : ax_Hc l G d call) (x0 : Option Nat) (x1 : Int32) (h : ax_Hp) {r : ax_Rs} {h' : ax_Hp} (ho : Resolver_noteFieldStart_b call x0 x1 h = some (r, h')) : ax_C l G (d + 1) y_Resolver_noteFieldStart (.code y_Resolver_noteFieldStart prog_4_method_11_code 2 (some (.boolean))) [ax_A x0, ax_I x1] h r h' := by
  refine ax_enter (by decide) (Nat.le_of_ble_eq_true rfl) ho (fun p e s mi args below meth c B E Nm => ?_)
  have B : ax_B G p s mi meth c "SchemaDesk$Resolver" prog_4_method_11_code 2 (some (.boolean)) := B
  show ax_W G p l e s mi args below meth c 2 (d + 1) h 0 [(0, ax_A x0), (1, ax_I x1)] [] h (Resolver_noteFieldStart_b call x0 x1 h)
  unfold Resolver_noteFieldStart_b
  refine ax_iload_n B 1 d_Resolver_noteFieldStart_0 rfl rfl ?_
  refine ax_if_lt B 13 d_Resolver_noteFieldStart_1 (by decide) ?_ ?_
  · refine ax_iconst (v := 0) B d_Resolver_noteFieldStart_13 (by decide) ?_
    exact ax_zreturn B d_Resolver_noteFieldStart_14
  · refine ax_iload_n B 1 d_Resolver_noteFieldStart_4 rfl rfl ?_
    refine ax_aload_n B 0 d_Resolver_noteFieldStart_5 rfl rfl ?_
    refine ax_getfr B cl_Resolver (by decide) fk_Resolver_26 d_Resolver_noteFieldStart_6 (fun v1 => ?_)
    refine ax_alen (kd := 1) B (by decide) d_Resolver_noteFieldStart_9 (fun v2 => ?_)
    refine ax_icmp_lt B 15 d_Resolver_noteFieldStart_10 (by decide) ?_ ?_
    · refine ax_aload_n B 0 d_Resolver_noteFieldStart_15 rfl rfl ?_
      refine ax_getfr B cl_Resolver (by decide) fk_Resolver_26 d_Resolver_noteFieldStart_16 (fun v3 => ?_)
      refine ax_iload_n B 1 d_Resolver_noteFieldStart_19 rfl rfl ?_
      refine ax_aload_n B 0 d_Resolver_noteFieldStart_20 rfl rfl ?_
      refine ax_getfr B cl_Resolver (by decide) fk_Resolver_9 d_Resolver_noteFieldStart_21 (fun v4 => ?_)
      refine ax_callVi (av := []) (rest := [ax_I x1, ax_A v3]) B E hm_Cursor_at cl_Cursor rfl wd_302 wd_303 lk_Resolver_152 d_Resolver_noteFieldStart_24 rfl (Nat.le_of_ble_eq_true rfl) (fun _ _ hh => hcall 27 _ _ _ _ hh) (fun v6 h5 => ?_)
      refine ax_iast (kd := 1) B (by decide) (by decide) rfl d_Resolver_noteFieldStart_27 (fun h7 => ?_)
      refine ax_iconst (v := 1) B d_Resolver_noteFieldStart_28 (by decide) ?_
      exact ax_zreturn B d_Resolver_noteFieldStart_29
    · refine ax_iconst (v := 0) B d_Resolver_noteFieldStart_13 (by decide) ?_
      exact ax_zreturn B d_Resolver_noteFieldStart_14

theorem d_Resolver_resolveField_0 : decode prog_4_method_12_code 0 = .ok (.aload_n 0, 1) := by decide +kernel
theorem d_Resolver_resolveField_1 : decode prog_4_method_12_code 1 = .ok (.getfield 15, 3) := by decide +kernel
theorem d_Resolver_resolveField_4 : decode prog_4_method_12_code 4 = .ok (.iload_n 1, 1) := by decide +kernel
theorem d_Resolver_resolveField_5 : decode prog_4_method_12_code 5 = .ok (.aload_n 0, 1) := by decide +kernel
theorem d_Resolver_resolveField_6 : decode prog_4_method_12_code 6 = .ok (.getfield 19, 3) := by decide +kernel
theorem d_Resolver_resolveField_9 : decode prog_4_method_12_code 9 = .ok (.iload_n 2, 1) := by decide +kernel
theorem d_Resolver_resolveField_10 : decode prog_4_method_12_code 10 = .ok (.invokevirtual 158, 3) := by decide +kernel
theorem d_Resolver_resolveField_13 : decode prog_4_method_12_code 13 = .ok (.invokevirtual 160, 3) := by decide +kernel
theorem d_Resolver_resolveField_16 : decode prog_4_method_12_code 16 = .ok (.istore 4, 2) := by decide +kernel
theorem d_Resolver_resolveField_18 : decode prog_4_method_12_code 18 = .ok (.iload 4, 2) := by decide +kernel
theorem d_Resolver_resolveField_20 : decode prog_4_method_12_code 20 = .ok (.iconst (-1), 1) := by decide +kernel
theorem d_Resolver_resolveField_21 : decode prog_4_method_12_code 21 = .ok (.if_icmp .ne 16, 3) := by decide +kernel
theorem d_Resolver_resolveField_24 : decode prog_4_method_12_code 24 = .ok (.aload_n 0, 1) := by decide +kernel
theorem d_Resolver_resolveField_25 : decode prog_4_method_12_code 25 = .ok (.aload_n 0, 1) := by decide +kernel
theorem d_Resolver_resolveField_26 : decode prog_4_method_12_code 26 = .ok (.getfield 19, 3) := by decide +kernel
theorem d_Resolver_resolveField_29 : decode prog_4_method_12_code 29 = .ok (.iload_n 2, 1) := by decide +kernel
theorem d_Resolver_resolveField_30 : decode prog_4_method_12_code 30 = .ok (.invokevirtual 163, 3) := by decide +kernel
theorem d_Resolver_resolveField_33 : decode prog_4_method_12_code 33 = .ok (.invokevirtual 166, 3) := by decide +kernel
theorem d_Resolver_resolveField_36 : decode prog_4_method_12_code 36 = .ok (.ireturn, 1) := by decide +kernel
theorem d_Resolver_resolveField_37 : decode prog_4_method_12_code 37 = .ok (.iload 4, 2) := by decide +kernel
theorem d_Resolver_resolveField_39 : decode prog_4_method_12_code 39 = .ok (.ifCond .lt 13, 3) := by decide +kernel
theorem d_Resolver_resolveField_42 : decode prog_4_method_12_code 42 = .ok (.iload 4, 2) := by decide +kernel
theorem d_Resolver_resolveField_44 : decode prog_4_method_12_code 44 = .ok (.aload_n 0, 1) := by decide +kernel
theorem d_Resolver_resolveField_45 : decode prog_4_method_12_code 45 = .ok (.getfield 26, 3) := by decide +kernel
theorem d_Resolver_resolveField_48 : decode prog_4_method_12_code 48 = .ok (.arraylength, 1) := by decide +kernel
theorem d_Resolver_resolveField_49 : decode prog_4_method_12_code 49 = .ok (.if_icmp .lt 5, 3) := by decide +kernel
theorem d_Resolver_resolveField_52 : decode prog_4_method_12_code 52 = .ok (.iconst 0, 1) := by decide +kernel
theorem d_Resolver_resolveField_53 : decode prog_4_method_12_code 53 = .ok (.ireturn, 1) := by decide +kernel
theorem d_Resolver_resolveField_54 : decode prog_4_method_12_code 54 = .ok (.aload_n 0, 1) := by decide +kernel
theorem d_Resolver_resolveField_55 : decode prog_4_method_12_code 55 = .ok (.getfield 9, 3) := by decide +kernel
theorem d_Resolver_resolveField_58 : decode prog_4_method_12_code 58 = .ok (.aload_n 0, 1) := by decide +kernel
theorem d_Resolver_resolveField_59 : decode prog_4_method_12_code 59 = .ok (.getfield 26, 3) := by decide +kernel
theorem d_Resolver_resolveField_62 : decode prog_4_method_12_code 62 = .ok (.iload 4, 2) := by decide +kernel
theorem d_Resolver_resolveField_64 : decode prog_4_method_12_code 64 = .ok (.iaload, 1) := by decide +kernel
theorem d_Resolver_resolveField_65 : decode prog_4_method_12_code 65 = .ok (.invokevirtual 39, 3) := by decide +kernel
theorem d_Resolver_resolveField_68 : decode prog_4_method_12_code 68 = .ok (.aload_n 0, 1) := by decide +kernel
theorem d_Resolver_resolveField_69 : decode prog_4_method_12_code 69 = .ok (.aload_n 0, 1) := by decide +kernel
theorem d_Resolver_resolveField_70 : decode prog_4_method_12_code 70 = .ok (.getfield 15, 3) := by decide +kernel
theorem d_Resolver_resolveField_73 : decode prog_4_method_12_code 73 = .ok (.iload 4, 2) := by decide +kernel
theorem d_Resolver_resolveField_75 : decode prog_4_method_12_code 75 = .ok (.invokevirtual 143, 3) := by decide +kernel
theorem d_Resolver_resolveField_78 : decode prog_4_method_12_code 78 = .ok (.aload_n 0, 1) := by decide +kernel
theorem d_Resolver_resolveField_79 : decode prog_4_method_12_code 79 = .ok (.getfield 19, 3) := by decide +kernel
theorem d_Resolver_resolveField_82 : decode prog_4_method_12_code 82 = .ok (.iload_n 2, 1) := by decide +kernel
theorem d_Resolver_resolveField_83 : decode prog_4_method_12_code 83 = .ok (.invokevirtual 143, 3) := by decide +kernel
theorem d_Resolver_resolveField_86 : decode prog_4_method_12_code 86 = .ok (.iload_n 3, 1) := by decide +kernel
theorem d_Resolver_resolveField_87 : decode prog_4_method_12_code 87 = .ok (.iconst 1, 1) := by decide +kernel
theorem d_Resolver_resolveField_88 : decode prog_4_method_12_code 88 = .ok (.iadd, 1) := by decide +kernel
theorem d_Resolver_resolveField_89 : decode prog_4_method_12_code 89 = .ok (.invokevirtual 45, 3) := by decide +kernel
theorem d_Resolver_resolveField_92 : decode prog_4_method_12_code 92 = .ok (.ireturn, 1) := by decide +kernel
def Resolver_resolveField_b (call : ax_Cf) (x0 : Option Nat) (x1 : Int32) (x2 : Int32) (x3 : Int32) (h : ax_Hp) : ax_O :=
  (ax_gr h x0 1 2).bind fun v1 =>
  (ax_gr h x0 1 3).bind fun v2 =>
  ax_on h v2 3 <| ax_ci (call 81 [ax_A v2, ax_I x2] h) fun v4 h3 =>
  ax_on h3 v1 3 <| ax_ci (call 82 [ax_A v1, ax_I x1, ax_I v4] h3) fun v6 h5 =>
  if v6 = (-1) then
    (ax_gr h5 x0 1 3).bind fun v22 =>
    ax_on h5 v22 3 <| ax_ci (call 83 [ax_A v22, ax_I x2] h5) fun v24 h23 =>
    ax_on h23 x0 1 <| ax_ci (call 139 [ax_A x0, ax_I v24] h23) fun v26 h25 =>
    ax_rz v26 h25
  else
    if v6 < 0 then
      ax_rz 0 h5
    else
      (ax_gr h5 x0 1 5).bind fun v7 =>
      (ax_len h5 v7 1).bind fun v8 =>
      if v6 < v8 then
        (ax_gr h5 x0 1 0).bind fun v9 =>
        (ax_gr h5 x0 1 5).bind fun v10 =>
        (ax_ldi h5 v10 1 v6).bind fun v11 =>
        ax_on h5 v9 0 <| ax_cv (call 125 [ax_A v9, ax_I v11] h5) fun h12 =>
        (ax_gr h12 x0 1 2).bind fun v14 =>
        ax_on h12 v14 3 <| ax_ci (call 65 [ax_A v14, ax_I v6] h12) fun v16 h15 =>
        (ax_gr h15 x0 1 3).bind fun v17 =>
        ax_on h15 v17 3 <| ax_ci (call 65 [ax_A v17, ax_I x2] h15) fun v19 h18 =>
        ax_on h18 x0 1 <| ax_ci (call 126 [ax_A x0, ax_I v16, ax_I v19, ax_I (x3 + 1)] h18) fun v21 h20 =>
        ax_rz v21 h20
      else
        ax_rz 0 h5
set_option maxHeartbeats 4000000 in
set_option maxRecDepth 20000 in
theorem Resolver_resolveField_t {l : Launch} {G : ax_G} {d : Nat} {call : ax_Cf} (hcall : ax_Hc l G d call) (x0 : Option Nat) (x1 : Int32) (x2 : Int32) (x3 : Int32) (h : ax_Hp) {r : ax_Rs} {h' : ax_Hp} (ho : Resolver_resolveField_b call x0 x1 x2 x3 h = some (r, h')) : ax_C l G (d + 1) y_Resolver_resolveField (.code y_Resolver_resolveField prog_4_method_12_code 5 (some (.boolean))) [ax_A x0, ax_I x1, ax_I x2, ax_I x3] h r h' := by
  refine ax_enter (by decide) (Nat.le_of_ble_eq_true rfl) ho (fun p e s mi args below meth c B E Nm => ?_)
  have B : ax_B G p s mi meth c "SchemaDesk$Resolver" prog_4_method_12_code 5 (some (.boolean)) := B
  show ax_W G p l e s mi args below meth c 5 (d + 1) h 0 [(0, ax_A x0), (1, ax_I x1), (2, ax_I x2), (3, ax_I x3)] [] h (Resolver_resolveField_b call x0 x1 x2 x3 h)
  unfold Resolver_resolveField_b
  refine ax_aload_n B 0 d_Resolver_resolveField_0 rfl rfl ?_
  refine ax_getfr B cl_Resolver (by decide) fk_Resolver_15 d_Resolver_resolveField_1 (fun v1 => ?_)
  refine ax_iload_n B 1 d_Resolver_resolveField_4 rfl rfl ?_
  refine ax_aload_n B 0 d_Resolver_resolveField_5 rfl rfl ?_
  refine ax_getfr B cl_Resolver (by decide) fk_Resolver_19 d_Resolver_resolveField_6 (fun v2 => ?_)
  refine ax_iload_n B 2 d_Resolver_resolveField_9 rfl rfl ?_
  refine ax_callVi (av := [ax_I x2]) (rest := [ax_I x1, ax_A v1]) B E hm_Schema_at cl_Schema rfl wd_527 wd_528 lk_Resolver_158 d_Resolver_resolveField_10 rfl (Nat.le_of_ble_eq_true rfl) (fun _ _ hh => hcall 81 _ _ _ _ hh) (fun v4 h3 => ?_)
  refine ax_callVi (av := [ax_I x1, ax_I v4]) (rest := []) B E hm_Schema_fieldNamed cl_Schema rfl wd_531 wd_532 lk_Resolver_160 d_Resolver_resolveField_13 rfl (Nat.le_of_ble_eq_true rfl) (fun _ _ hh => hcall 82 _ _ _ _ hh) (fun v6 h5 => ?_)
  refine ax_istore (tv2 := [(4, ax_I v6), (0, ax_A x0), (1, ax_I x1), (2, ax_I x2), (3, ax_I x3)]) B d_Resolver_resolveField_16 (by decide) rfl ?_
  refine ax_iload B 0 d_Resolver_resolveField_18 rfl ?_
  refine ax_iconst (v := (-1)) B d_Resolver_resolveField_20 (by decide) ?_
  refine ax_icmp_ne B 37 d_Resolver_resolveField_21 (by decide) ?_ ?_
  · refine ax_iload B 0 d_Resolver_resolveField_37 rfl ?_
    refine ax_if_lt B 52 d_Resolver_resolveField_39 (by decide) ?_ ?_
    · refine ax_iconst (v := 0) B d_Resolver_resolveField_52 (by decide) ?_
      exact ax_zreturn B d_Resolver_resolveField_53
    · refine ax_iload B 0 d_Resolver_resolveField_42 rfl ?_
      refine ax_aload_n B 1 d_Resolver_resolveField_44 rfl rfl ?_
      refine ax_getfr B cl_Resolver (by decide) fk_Resolver_26 d_Resolver_resolveField_45 (fun v7 => ?_)
      refine ax_alen (kd := 1) B (by decide) d_Resolver_resolveField_48 (fun v8 => ?_)
      refine ax_icmp_lt B 54 d_Resolver_resolveField_49 (by decide) ?_ ?_
      · refine ax_aload_n B 1 d_Resolver_resolveField_54 rfl rfl ?_
        refine ax_getfr B cl_Resolver (by decide) fk_Resolver_9 d_Resolver_resolveField_55 (fun v9 => ?_)
        refine ax_aload_n B 1 d_Resolver_resolveField_58 rfl rfl ?_
        refine ax_getfr B cl_Resolver (by decide) fk_Resolver_26 d_Resolver_resolveField_59 (fun v10 => ?_)
        refine ax_iload B 0 d_Resolver_resolveField_62 rfl ?_
        refine ax_iald (kd := 1) B (by decide) rfl d_Resolver_resolveField_64 (fun v11 => ?_)
        refine ax_callVv (av := [ax_I v11]) (rest := []) B E hm_Cursor_moveTo cl_Cursor rfl wd_783 wd_784 lk_Resolver_39 d_Resolver_resolveField_65 rfl (Nat.le_of_ble_eq_true rfl) (fun _ _ hh => hcall 125 _ _ _ _ hh) (fun h12 => ?_)
        refine ax_aload_n B 1 d_Resolver_resolveField_68 rfl rfl ?_
        refine ax_aload_n B 1 d_Resolver_resolveField_69 rfl rfl ?_
        refine ax_getfr B cl_Resolver (by decide) fk_Resolver_15 d_Resolver_resolveField_70 (fun v14 => ?_)
        refine ax_iload B 0 d_Resolver_resolveField_73 rfl ?_
        refine ax_callVi (av := [ax_I v6]) (rest := [ax_A x0]) B E hm_Schema_fieldType cl_Schema rfl wd_460 wd_461 lk_Resolver_143 d_Resolver_resolveField_75 rfl (Nat.le_of_ble_eq_true rfl) (fun _ _ hh => hcall 65 _ _ _ _ hh) (fun v16 h15 => ?_)
        refine ax_aload_n B 1 d_Resolver_resolveField_78 rfl rfl ?_
        refine ax_getfr B cl_Resolver (by decide) fk_Resolver_19 d_Resolver_resolveField_79 (fun v17 => ?_)
        refine ax_iload_n B 3 d_Resolver_resolveField_82 rfl rfl ?_
        refine ax_callVi (av := [ax_I x2]) (rest := [ax_I v16, ax_A x0]) B E hm_Schema_fieldType cl_Schema rfl wd_460 wd_461 lk_Resolver_143 d_Resolver_resolveField_83 rfl (Nat.le_of_ble_eq_true rfl) (fun _ _ hh => hcall 65 _ _ _ _ hh) (fun v19 h18 => ?_)
        refine ax_iload_n B 4 d_Resolver_resolveField_86 rfl rfl ?_
        refine ax_iconst (v := 1) B d_Resolver_resolveField_87 (by decide) ?_
        refine ax_iadd B d_Resolver_resolveField_88 ?_
        refine ax_callVi (av := [ax_I v16, ax_I v19, ax_I (x3 + 1)]) (rest := []) B E hm_Resolver_resolve cl_Resolver rfl wd_788 wp_28 lk_Resolver_45 d_Resolver_resolveField_89 rfl (Nat.le_of_ble_eq_true rfl) (fun _ _ hh => hcall 126 _ _ _ _ hh) (fun v21 h20 => ?_)
        exact ax_zreturn B d_Resolver_resolveField_92
      · refine ax_iconst (v := 0) B d_Resolver_resolveField_52 (by decide) ?_
        exact ax_zreturn B d_Resolver_resolveField_53
  · refine ax_aload_n B 1 d_Resolver_resolveField_24 rfl rfl ?_
    refine ax_aload_n B 1 d_Resolver_resolveField_25 rfl rfl ?_
    refine ax_getfr B cl_Resolver (by decide) fk_Resolver_19 d_Resolver_resolveField_26 (fun v22 => ?_)
    refine ax_iload_n B 3 d_Resolver_resolveField_29 rfl rfl ?_
    refine ax_callVi (av := [ax_I x2]) (rest := [ax_A x0]) B E hm_Schema_fieldDefault cl_Schema rfl wd_535 wd_536 lk_Resolver_163 d_Resolver_resolveField_30 rfl (Nat.le_of_ble_eq_true rfl) (fun _ _ hh => hcall 83 _ _ _ _ hh) (fun v24 h23 => ?_)
    refine ax_callVi (av := [ax_I v24]) (rest := []) B E hm_Resolver_addDefault cl_Resolver rfl wd_860 wp_37 lk_Resolver_166 d_Resolver_resolveField_33 rfl (Nat.le_of_ble_eq_true rfl) (fun _ _ hh => hcall 139 _ _ _ _ hh) (fun v26 h25 => ?_)
    exact ax_zreturn B d_Resolver_resolveField_36

theorem d_Resolver_addDefault_0 : decode prog_4_method_13_code 0 = .ok (.iload_n 1, 1) := by decide +kernel
theorem d_Resolver_addDefault_1 : decode prog_4_method_13_code 1 = .ok (.iconst (-1), 1) := by decide +kernel
theorem d_Resolver_addDefault_2 : decode prog_4_method_13_code 2 = .ok (.if_icmp .ne 5, 3) := by decide +kernel
theorem d_Resolver_addDefault_5 : decode prog_4_method_13_code 5 = .ok (.iconst 0, 1) := by decide +kernel
theorem d_Resolver_addDefault_6 : decode prog_4_method_13_code 6 = .ok (.ireturn, 1) := by decide +kernel
theorem d_Resolver_addDefault_7 : decode prog_4_method_13_code 7 = .ok (.aload_n 0, 1) := by decide +kernel
theorem d_Resolver_addDefault_8 : decode prog_4_method_13_code 8 = .ok (.getfield 19, 3) := by decide +kernel
theorem d_Resolver_addDefault_11 : decode prog_4_method_13_code 11 = .ok (.iload_n 1, 1) := by decide +kernel
theorem d_Resolver_addDefault_12 : decode prog_4_method_13_code 12 = .ok (.invokevirtual 169, 3) := by decide +kernel
theorem d_Resolver_addDefault_15 : decode prog_4_method_13_code 15 = .ok (.istore_n 2, 1) := by decide +kernel
theorem d_Resolver_addDefault_16 : decode prog_4_method_13_code 16 = .ok (.iload_n 1, 1) := by decide +kernel
theorem d_Resolver_addDefault_17 : decode prog_4_method_13_code 17 = .ok (.istore_n 3, 1) := by decide +kernel
theorem d_Resolver_addDefault_18 : decode prog_4_method_13_code 18 = .ok (.iload_n 3, 1) := by decide +kernel
theorem d_Resolver_addDefault_19 : decode prog_4_method_13_code 19 = .ok (.iload_n 2, 1) := by decide +kernel
theorem d_Resolver_addDefault_20 : decode prog_4_method_13_code 20 = .ok (.if_icmp .ge 66, 3) := by decide +kernel
theorem d_Resolver_addDefault_23 : decode prog_4_method_13_code 23 = .ok (.aload_n 0, 1) := by decide +kernel
theorem d_Resolver_addDefault_24 : decode prog_4_method_13_code 24 = .ok (.getfield 19, 3) := by decide +kernel
theorem d_Resolver_addDefault_27 : decode prog_4_method_13_code 27 = .ok (.iload_n 3, 1) := by decide +kernel
theorem d_Resolver_addDefault_28 : decode prog_4_method_13_code 28 = .ok (.invokevirtual 172, 3) := by decide +kernel
theorem d_Resolver_addDefault_31 : decode prog_4_method_13_code 31 = .ok (.ifCond .eq 29, 3) := by decide +kernel
theorem d_Resolver_addDefault_34 : decode prog_4_method_13_code 34 = .ok (.aload_n 0, 1) := by decide +kernel
theorem d_Resolver_addDefault_35 : decode prog_4_method_13_code 35 = .ok (.getfield 22, 3) := by decide +kernel
theorem d_Resolver_addDefault_38 : decode prog_4_method_13_code 38 = .ok (.bipush 48, 2) := by decide +kernel
theorem d_Resolver_addDefault_40 : decode prog_4_method_13_code 40 = .ok (.invokevirtual 63, 3) := by decide +kernel
theorem d_Resolver_addDefault_43 : decode prog_4_method_13_code 43 = .ok (.ifCond .eq 15, 3) := by decide +kernel
theorem d_Resolver_addDefault_46 : decode prog_4_method_13_code 46 = .ok (.aload_n 0, 1) := by decide +kernel
theorem d_Resolver_addDefault_47 : decode prog_4_method_13_code 47 = .ok (.getfield 22, 3) := by decide +kernel
theorem d_Resolver_addDefault_50 : decode prog_4_method_13_code 50 = .ok (.bipush 58, 2) := by decide +kernel
theorem d_Resolver_addDefault_52 : decode prog_4_method_13_code 52 = .ok (.invokevirtual 63, 3) := by decide +kernel
theorem d_Resolver_addDefault_55 : decode prog_4_method_13_code 55 = .ok (.ifCond .ne 5, 3) := by decide +kernel
theorem d_Resolver_addDefault_58 : decode prog_4_method_13_code 58 = .ok (.iconst 0, 1) := by decide +kernel
theorem d_Resolver_addDefault_59 : decode prog_4_method_13_code 59 = .ok (.ireturn, 1) := by decide +kernel
theorem d_Resolver_addDefault_60 : decode prog_4_method_13_code 60 = .ok (.aload_n 0, 1) := by decide +kernel
theorem d_Resolver_addDefault_61 : decode prog_4_method_13_code 61 = .ok (.getfield 22, 3) := by decide +kernel
theorem d_Resolver_addDefault_64 : decode prog_4_method_13_code 64 = .ok (.aload_n 0, 1) := by decide +kernel
theorem d_Resolver_addDefault_65 : decode prog_4_method_13_code 65 = .ok (.getfield 19, 3) := by decide +kernel
theorem d_Resolver_addDefault_68 : decode prog_4_method_13_code 68 = .ok (.iload_n 3, 1) := by decide +kernel
theorem d_Resolver_addDefault_69 : decode prog_4_method_13_code 69 = .ok (.invokevirtual 158, 3) := by decide +kernel
theorem d_Resolver_addDefault_72 : decode prog_4_method_13_code 72 = .ok (.invokevirtual 63, 3) := by decide +kernel
theorem d_Resolver_addDefault_75 : decode prog_4_method_13_code 75 = .ok (.ifCond .ne 5, 3) := by decide +kernel
theorem d_Resolver_addDefault_78 : decode prog_4_method_13_code 78 = .ok (.iconst 0, 1) := by decide +kernel
theorem d_Resolver_addDefault_79 : decode prog_4_method_13_code 79 = .ok (.ireturn, 1) := by decide +kernel
theorem d_Resolver_addDefault_80 : decode prog_4_method_13_code 80 = .ok (.iinc 3 1, 3) := by decide +kernel
theorem d_Resolver_addDefault_83 : decode prog_4_method_13_code 83 = .ok (.goto (-65), 3) := by decide +kernel
theorem d_Resolver_addDefault_86 : decode prog_4_method_13_code 86 = .ok (.iconst 1, 1) := by decide +kernel
theorem d_Resolver_addDefault_87 : decode prog_4_method_13_code 87 = .ok (.ireturn, 1) := by decide +kernel
def Resolver_addDefault_bd18 (call : ax_Cf)  (k18 : Option Nat → Int32 → Int32 → ax_Hp → ax_O) (x0 : Option Nat) (x2 : Int32) (x3 : Int32) (h : ax_Hp) : ax_O :=
  if x2 ≤ x3 then
    ax_rz 1 h
  else
    (ax_gr h x0 1 3).bind fun v4 =>
    ax_on h v4 3 <| ax_ci (call 140 [ax_A v4, ax_I x3] h) fun v6 h5 =>
    if v6 = 0 then
      (ax_gr h5 x0 1 4).bind fun v7 =>
      (ax_gr h5 x0 1 3).bind fun v8 =>
      ax_on h5 v8 3 <| ax_ci (call 81 [ax_A v8, ax_I x3] h5) fun v10 h9 =>
      ax_on h9 v7 2 <| ax_ci (call 8 [ax_A v7, ax_I v10] h9) fun v12 h11 =>
      if v12 = 0 then
        ax_rz 0 h11
      else
        k18 x0 x2 (x3 + 1) h11
    else
      (ax_gr h5 x0 1 4).bind fun v13 =>
      ax_on h5 v13 2 <| ax_ci (call 8 [ax_A v13, ax_I 48] h5) fun v15 h14 =>
      if v15 = 0 then
        ax_rz 0 h14
      else
        (ax_gr h14 x0 1 4).bind fun v16 =>
        ax_on h14 v16 2 <| ax_ci (call 8 [ax_A v16, ax_I 58] h14) fun v18 h17 =>
        if v18 = 0 then
          ax_rz 0 h17
        else
          (ax_gr h17 x0 1 4).bind fun v19 =>
          (ax_gr h17 x0 1 3).bind fun v20 =>
          ax_on h17 v20 3 <| ax_ci (call 81 [ax_A v20, ax_I x3] h17) fun v22 h21 =>
          ax_on h21 v19 2 <| ax_ci (call 8 [ax_A v19, ax_I v22] h21) fun v24 h23 =>
          if v24 = 0 then
            ax_rz 0 h23
          else
            k18 x0 x2 (x3 + 1) h23
def Resolver_addDefault_lp18 (call : ax_Cf)  : Nat → Option Nat → Int32 → Int32 → ax_Hp → ax_O
  | 0 => fun _ _ _ _ => none
  | n + 1 => Resolver_addDefault_bd18 call  (Resolver_addDefault_lp18 call  n)
set_option maxHeartbeats 4000000 in
set_option maxRecDepth 20000 in
theorem Resolver_addDefault_lb18 {l : Launch} {G : ax_G} {d : Nat} {call : ax_Cf} (hcall : ax_Hc l G d call) {p : Program} {e : Env} {s : State} {mi : MethodId} {args : Array Value} {below : List Frame} {meth : Method} {c : Code} {h0 : ax_Hp} (B : ax_B G p s mi meth c "SchemaDesk$Resolver" prog_4_method_13_code 4 (some (.boolean))) (E : c.exceptionTable.isEmpty = true) (Nm : meth.name = y_Resolver_addDefault.name)   {k18 : Option Nat → Int32 → Int32 → ax_Hp → ax_O} (hk18 : ∀ (x0 : Option Nat) (x2 : Int32) (x3 : Int32) (h : ax_Hp), ax_W G p l e s mi args below meth c 4 (d + 1) h0 18 [(0, ax_A x0), (2, ax_I x2), (3, ax_I x3)] [] h (k18 x0 x2 x3 h)) (x0 : Option Nat) (x2 : Int32) (x3 : Int32) (h : ax_Hp) : ax_W G p l e s mi args below meth c 4 (d + 1) h0 18 [(0, ax_A x0), (2, ax_I x2), (3, ax_I x3)] [] h (Resolver_addDefault_bd18 call  k18 x0 x2 x3 h) := by
  unfold Resolver_addDefault_bd18
  refine ax_iload_n B 2 d_Resolver_addDefault_18 rfl rfl ?_
  refine ax_iload_n B 1 d_Resolver_addDefault_19 rfl rfl ?_
  refine ax_icmp_ge B 86 d_Resolver_addDefault_20 (by decide) ?_ ?_
  · refine ax_iconst (v := 1) B d_Resolver_addDefault_86 (by decide) ?_
    exact ax_zreturn B d_Resolver_addDefault_87
  · refine ax_aload_n B 0 d_Resolver_addDefault_23 rfl rfl ?_
    refine ax_getfr B cl_Resolver (by decide) fk_Resolver_19 d_Resolver_addDefault_24 (fun v4 => ?_)
    refine ax_iload_n B 2 d_Resolver_addDefault_27 rfl rfl ?_
    refine ax_callVi (av := [ax_I x3]) (rest := []) B E hm_Schema_isMarkedUnion cl_Schema rfl wd_864 wd_865 lk_Resolver_172 d_Resolver_addDefault_28 rfl (Nat.le_of_ble_eq_true rfl) (fun _ _ hh => hcall 140 _ _ _ _ hh) (fun v6 h5 => ?_)
    refine ax_if_eq B 60 d_Resolver_addDefault_31 (by decide) ?_ ?_
    · refine ax_aload_n B 0 d_Resolver_addDefault_60 rfl rfl ?_
      refine ax_getfr B cl_Resolver (by decide) fk_Resolver_22 d_Resolver_addDefault_61 (fun v7 => ?_)
      refine ax_aload_n B 0 d_Resolver_addDefault_64 rfl rfl ?_
      refine ax_getfr B cl_Resolver (by decide) fk_Resolver_19 d_Resolver_addDefault_65 (fun v8 => ?_)
      refine ax_iload_n B 2 d_Resolver_addDefault_68 rfl rfl ?_
      refine ax_callVi (av := [ax_I x3]) (rest := [ax_A v7]) B E hm_Schema_at cl_Schema rfl wd_527 wd_528 lk_Resolver_158 d_Resolver_addDefault_69 rfl (Nat.le_of_ble_eq_true rfl) (fun _ _ hh => hcall 81 _ _ _ _ hh) (fun v10 h9 => ?_)
      refine ax_callVi (av := [ax_I v10]) (rest := []) B E hm_Row_add cl_Row rfl wd_123 wd_124 lk_Resolver_63 d_Resolver_addDefault_72 rfl (Nat.le_of_ble_eq_true rfl) (fun _ _ hh => hcall 8 _ _ _ _ hh) (fun v12 h11 => ?_)
      refine ax_if_ne B 80 d_Resolver_addDefault_75 (by decide) ?_ ?_
      · refine ax_iinc (v := x3 + 1) (tv2 := [(3, ax_I (x3 + 1)), (0, ax_A x0), (2, ax_I x2)]) B 2 d_Resolver_addDefault_80 rfl (congrArg (_ + ·) (by decide)) (by decide) rfl ?_
        refine ax_goto B 18 d_Resolver_addDefault_83 (by decide) ?_
        refine ax_sub (tv2 := [(0, ax_A x0), (2, ax_I x2), (3, ax_I (x3 + 1))]) [1, 2, 0] rfl ?_
        exact hk18 x0 x2 (x3 + 1) h11
      · refine ax_iconst (v := 0) B d_Resolver_addDefault_78 (by decide) ?_
        exact ax_zreturn B d_Resolver_addDefault_79
    · refine ax_aload_n B 0 d_Resolver_addDefault_34 rfl rfl ?_
      refine ax_getfr B cl_Resolver (by decide) fk_Resolver_22 d_Resolver_addDefault_35 (fun v13 => ?_)
      refine ax_bipush (v := 48) B d_Resolver_addDefault_38 (by decide) ?_
      refine ax_callVi (av := [ax_I 48]) (rest := []) B E hm_Row_add cl_Row rfl wd_123 wd_124 lk_Resolver_63 d_Resolver_addDefault_40 rfl (Nat.le_of_ble_eq_true rfl) (fun _ _ hh => hcall 8 _ _ _ _ hh) (fun v15 h14 => ?_)
      refine ax_if_eq B 58 d_Resolver_addDefault_43 (by decide) ?_ ?_
      · refine ax_iconst (v := 0) B d_Resolver_addDefault_58 (by decide) ?_
        exact ax_zreturn B d_Resolver_addDefault_59
      · refine ax_aload_n B 0 d_Resolver_addDefault_46 rfl rfl ?_
        refine ax_getfr B cl_Resolver (by decide) fk_Resolver_22 d_Resolver_addDefault_47 (fun v16 => ?_)
        refine ax_bipush (v := 58) B d_Resolver_addDefault_50 (by decide) ?_
        refine ax_callVi (av := [ax_I 58]) (rest := []) B E hm_Row_add cl_Row rfl wd_123 wd_124 lk_Resolver_63 d_Resolver_addDefault_52 rfl (Nat.le_of_ble_eq_true rfl) (fun _ _ hh => hcall 8 _ _ _ _ hh) (fun v18 h17 => ?_)
        refine ax_if_ne B 60 d_Resolver_addDefault_55 (by decide) ?_ ?_
        · refine ax_aload_n B 0 d_Resolver_addDefault_60 rfl rfl ?_
          refine ax_getfr B cl_Resolver (by decide) fk_Resolver_22 d_Resolver_addDefault_61 (fun v19 => ?_)
          refine ax_aload_n B 0 d_Resolver_addDefault_64 rfl rfl ?_
          refine ax_getfr B cl_Resolver (by decide) fk_Resolver_19 d_Resolver_addDefault_65 (fun v20 => ?_)
          refine ax_iload_n B 2 d_Resolver_addDefault_68 rfl rfl ?_
          refine ax_callVi (av := [ax_I x3]) (rest := [ax_A v19]) B E hm_Schema_at cl_Schema rfl wd_527 wd_528 lk_Resolver_158 d_Resolver_addDefault_69 rfl (Nat.le_of_ble_eq_true rfl) (fun _ _ hh => hcall 81 _ _ _ _ hh) (fun v22 h21 => ?_)
          refine ax_callVi (av := [ax_I v22]) (rest := []) B E hm_Row_add cl_Row rfl wd_123 wd_124 lk_Resolver_63 d_Resolver_addDefault_72 rfl (Nat.le_of_ble_eq_true rfl) (fun _ _ hh => hcall 8 _ _ _ _ hh) (fun v24 h23 => ?_)
          refine ax_if_ne B 80 d_Resolver_addDefault_75 (by decide) ?_ ?_
          · refine ax_iinc (v := x3 + 1) (tv2 := [(3, ax_I (x3 + 1)), (0, ax_A x0), (2, ax_I x2)]) B 2 d_Resolver_addDefault_80 rfl (congrArg (_ + ·) (by decide)) (by decide) rfl ?_
            refine ax_goto B 18 d_Resolver_addDefault_83 (by decide) ?_
            refine ax_sub (tv2 := [(0, ax_A x0), (2, ax_I x2), (3, ax_I (x3 + 1))]) [1, 2, 0] rfl ?_
            exact hk18 x0 x2 (x3 + 1) h23
          · refine ax_iconst (v := 0) B d_Resolver_addDefault_78 (by decide) ?_
            exact ax_zreturn B d_Resolver_addDefault_79
        · refine ax_iconst (v := 0) B d_Resolver_addDefault_58 (by decide) ?_
          exact ax_zreturn B d_Resolver_addDefault_59
theorem Resolver_addDefault_lq18 {l : Launch} {G : ax_G} {d : Nat} {call : ax_Cf} (hcall : ax_Hc l G d call) {p : Program} {e : Env} {s : State} {mi : MethodId} {args : Array Value} {below : List Frame} {meth : Method} {c : Code} {h0 : ax_Hp} (B : ax_B G p s mi meth c "SchemaDesk$Resolver" prog_4_method_13_code 4 (some (.boolean))) (E : c.exceptionTable.isEmpty = true) (Nm : meth.name = y_Resolver_addDefault.name)   : ∀ (n : Nat) (x0 : Option Nat) (x2 : Int32) (x3 : Int32) (h : ax_Hp), ax_W G p l e s mi args below meth c 4 (d + 1) h0 18 [(0, ax_A x0), (2, ax_I x2), (3, ax_I x3)] [] h (Resolver_addDefault_lp18 call  n x0 x2 x3 h)
  | 0, _, _, _, _ => ax_none
  | n + 1, x0, x2, x3, h => Resolver_addDefault_lb18 hcall B E Nm   (Resolver_addDefault_lq18 hcall B E Nm   n) x0 x2 x3 h
def Resolver_addDefault_b (call : ax_Cf) (x0 : Option Nat) (x1 : Int32) (h : ax_Hp) : ax_O :=
  if x1 = (-1) then
    ax_rz 0 h
  else
    (ax_gr h x0 1 3).bind fun v1 =>
    ax_on h v1 3 <| ax_ci (call 77 [ax_A v1, ax_I x1] h) fun v3 h2 =>
    Resolver_addDefault_lp18 call ax_fuel x0 v3 x1 h2
set_option maxHeartbeats 4000000 in
set_option maxRecDepth 20000 in
theorem Resolver_addDefault_t {l : Launch} {G : ax_G} {d : Nat} {call : ax_Cf} (hcall : ax_Hc l G d call) (x0 : Option Nat) (x1 : Int32) (h : ax_Hp) {r : ax_Rs} {h' : ax_Hp} (ho : Resolver_addDefault_b call x0 x1 h = some (r, h')) : ax_C l G (d + 1) y_Resolver_addDefault (.code y_Resolver_addDefault prog_4_method_13_code 4 (some (.boolean))) [ax_A x0, ax_I x1] h r h' := by
  refine ax_enter (by decide) (Nat.le_of_ble_eq_true rfl) ho (fun p e s mi args below meth c B E Nm => ?_)
  have B : ax_B G p s mi meth c "SchemaDesk$Resolver" prog_4_method_13_code 4 (some (.boolean)) := B
  show ax_W G p l e s mi args below meth c 4 (d + 1) h 0 [(0, ax_A x0), (1, ax_I x1)] [] h (Resolver_addDefault_b call x0 x1 h)
  unfold Resolver_addDefault_b
  refine ax_iload_n B 1 d_Resolver_addDefault_0 rfl rfl ?_
  refine ax_iconst (v := (-1)) B d_Resolver_addDefault_1 (by decide) ?_
  refine ax_icmp_ne B 7 d_Resolver_addDefault_2 (by decide) ?_ ?_
  · refine ax_aload_n B 0 d_Resolver_addDefault_7 rfl rfl ?_
    refine ax_getfr B cl_Resolver (by decide) fk_Resolver_19 d_Resolver_addDefault_8 (fun v1 => ?_)
    refine ax_iload_n B 1 d_Resolver_addDefault_11 rfl rfl ?_
    refine ax_callVi (av := [ax_I x1]) (rest := []) B E hm_Schema_end cl_Schema rfl wd_510 wd_511 lk_Resolver_169 d_Resolver_addDefault_12 rfl (Nat.le_of_ble_eq_true rfl) (fun _ _ hh => hcall 77 _ _ _ _ hh) (fun v3 h2 => ?_)
    refine ax_istore_n (tv2 := [(2, ax_I v3), (0, ax_A x0), (1, ax_I x1)]) B d_Resolver_addDefault_15 rfl (by decide) rfl ?_
    refine ax_iload_n B 2 d_Resolver_addDefault_16 rfl rfl ?_
    refine ax_istore_n (tv2 := [(3, ax_I x1), (2, ax_I v3), (0, ax_A x0), (1, ax_I x1)]) B d_Resolver_addDefault_17 rfl (by decide) rfl ?_
    refine ax_sub (tv2 := [(0, ax_A x0), (2, ax_I v3), (3, ax_I x1)]) [2, 1, 0] rfl ?_
    exact Resolver_addDefault_lq18 hcall B E Nm ax_fuel x0 v3 x1 h2
  · refine ax_iconst (v := 0) B d_Resolver_addDefault_5 (by decide) ?_
    exact ax_zreturn B d_Resolver_addDefault_6
