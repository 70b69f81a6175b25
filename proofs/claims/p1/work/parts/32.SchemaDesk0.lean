theorem d_Desk_init_0 : decode prog_1_method_1_code 0 = .ok (.aload_n 0, 1) := by decide +kernel
theorem d_Desk_init_1 : decode prog_1_method_1_code 1 = .ok (.invokespecial 1, 3) := by decide +kernel
theorem d_Desk_init_4 : decode prog_1_method_1_code 4 = .ok (.new 7, 3) := by decide +kernel
theorem d_Desk_init_7 : decode prog_1_method_1_code 7 = .ok (.dup, 1) := by decide +kernel
theorem d_Desk_init_8 : decode prog_1_method_1_code 8 = .ok (.sipush 160, 3) := by decide +kernel
theorem d_Desk_init_11 : decode prog_1_method_1_code 11 = .ok (.newarray .int, 2) := by decide +kernel
theorem d_Desk_init_13 : decode prog_1_method_1_code 13 = .ok (.iconst 0, 1) := by decide +kernel
theorem d_Desk_init_14 : decode prog_1_method_1_code 14 = .ok (.invokespecial 11, 3) := by decide +kernel
theorem d_Desk_init_17 : decode prog_1_method_1_code 17 = .ok (.astore_n 1, 1) := by decide +kernel
theorem d_Desk_init_18 : decode prog_1_method_1_code 18 = .ok (.aload_n 0, 1) := by decide +kernel
theorem d_Desk_init_19 : decode prog_1_method_1_code 19 = .ok (.aload_n 1, 1) := by decide +kernel
theorem d_Desk_init_20 : decode prog_1_method_1_code 20 = .ok (.putfield 14, 3) := by decide +kernel
theorem d_Desk_init_23 : decode prog_1_method_1_code 23 = .ok (.aload_n 0, 1) := by decide +kernel
theorem d_Desk_init_24 : decode prog_1_method_1_code 24 = .ok (.new 18, 3) := by decide +kernel
theorem d_Desk_init_27 : decode prog_1_method_1_code 27 = .ok (.dup, 1) := by decide +kernel
theorem d_Desk_init_28 : decode prog_1_method_1_code 28 = .ok (.aload_n 1, 1) := by decide +kernel
theorem d_Desk_init_29 : decode prog_1_method_1_code 29 = .ok (.sipush 160, 3) := by decide +kernel
theorem d_Desk_init_32 : decode prog_1_method_1_code 32 = .ok (.newarray .int, 2) := by decide +kernel
theorem d_Desk_init_34 : decode prog_1_method_1_code 34 = .ok (.sipush 160, 3) := by decide +kernel
theorem d_Desk_init_37 : decode prog_1_method_1_code 37 = .ok (.newarray .int, 2) := by decide +kernel
theorem d_Desk_init_39 : decode prog_1_method_1_code 39 = .ok (.sipush 160, 3) := by decide +kernel
theorem d_Desk_init_42 : decode prog_1_method_1_code 42 = .ok (.newarray .int, 2) := by decide +kernel
theorem d_Desk_init_44 : decode prog_1_method_1_code 44 = .ok (.invokespecial 20, 3) := by decide +kernel
theorem d_Desk_init_47 : decode prog_1_method_1_code 47 = .ok (.putfield 23, 3) := by decide +kernel
theorem d_Desk_init_50 : decode prog_1_method_1_code 50 = .ok (.aload_n 0, 1) := by decide +kernel
theorem d_Desk_init_51 : decode prog_1_method_1_code 51 = .ok (.new 7, 3) := by decide +kernel
theorem d_Desk_init_54 : decode prog_1_method_1_code 54 = .ok (.dup, 1) := by decide +kernel
theorem d_Desk_init_55 : decode prog_1_method_1_code 55 = .ok (.bipush 64, 2) := by decide +kernel
theorem d_Desk_init_57 : decode prog_1_method_1_code 57 = .ok (.newarray .int, 2) := by decide +kernel
theorem d_Desk_init_59 : decode prog_1_method_1_code 59 = .ok (.iconst 0, 1) := by decide +kernel
theorem d_Desk_init_60 : decode prog_1_method_1_code 60 = .ok (.invokespecial 11, 3) := by decide +kernel
theorem d_Desk_init_63 : decode prog_1_method_1_code 63 = .ok (.putfield 27, 3) := by decide +kernel
theorem d_Desk_init_66 : decode prog_1_method_1_code 66 = .ok (.aload_n 0, 1) := by decide +kernel
theorem d_Desk_init_67 : decode prog_1_method_1_code 67 = .ok (.new 7, 3) := by decide +kernel
theorem d_Desk_init_70 : decode prog_1_method_1_code 70 = .ok (.dup, 1) := by decide +kernel
theorem d_Desk_init_71 : decode prog_1_method_1_code 71 = .ok (.sipush 400, 3) := by decide +kernel
theorem d_Desk_init_74 : decode prog_1_method_1_code 74 = .ok (.newarray .int, 2) := by decide +kernel
theorem d_Desk_init_76 : decode prog_1_method_1_code 76 = .ok (.iconst 0, 1) := by decide +kernel
theorem d_Desk_init_77 : decode prog_1_method_1_code 77 = .ok (.invokespecial 11, 3) := by decide +kernel
theorem d_Desk_init_80 : decode prog_1_method_1_code 80 = .ok (.putfield 30, 3) := by decide +kernel
theorem d_Desk_init_83 : decode prog_1_method_1_code 83 = .ok (.aload_n 0, 1) := by decide +kernel
theorem d_Desk_init_84 : decode prog_1_method_1_code 84 = .ok (.new 7, 3) := by decide +kernel
theorem d_Desk_init_87 : decode prog_1_method_1_code 87 = .ok (.dup, 1) := by decide +kernel
theorem d_Desk_init_88 : decode prog_1_method_1_code 88 = .ok (.sipush 400, 3) := by decide +kernel
theorem d_Desk_init_91 : decode prog_1_method_1_code 91 = .ok (.newarray .int, 2) := by decide +kernel
theorem d_Desk_init_93 : decode prog_1_method_1_code 93 = .ok (.iconst 0, 1) := by decide +kernel
theorem d_Desk_init_94 : decode prog_1_method_1_code 94 = .ok (.invokespecial 11, 3) := by decide +kernel
theorem d_Desk_init_97 : decode prog_1_method_1_code 97 = .ok (.putfield 33, 3) := by decide +kernel
theorem d_Desk_init_100 : decode prog_1_method_1_code 100 = .ok (.aload_n 0, 1) := by decide +kernel
theorem d_Desk_init_101 : decode prog_1_method_1_code 101 = .ok (.iconst 4, 1) := by decide +kernel
theorem d_Desk_init_102 : decode prog_1_method_1_code 102 = .ok (.anewarray 36, 3) := by decide +kernel
theorem d_Desk_init_105 : decode prog_1_method_1_code 105 = .ok (.putfield 38, 3) := by decide +kernel
theorem d_Desk_init_108 : decode prog_1_method_1_code 108 = .ok (.iconst 0, 1) := by decide +kernel
theorem d_Desk_init_109 : decode prog_1_method_1_code 109 = .ok (.istore_n 2, 1) := by decide +kernel
theorem d_Desk_init_110 : decode prog_1_method_1_code 110 = .ok (.iload_n 2, 1) := by decide +kernel
theorem d_Desk_init_111 : decode prog_1_method_1_code 111 = .ok (.iconst 4, 1) := by decide +kernel
theorem d_Desk_init_112 : decode prog_1_method_1_code 112 = .ok (.if_icmp .ge 22, 3) := by decide +kernel
theorem d_Desk_init_115 : decode prog_1_method_1_code 115 = .ok (.aload_n 0, 1) := by decide +kernel
theorem d_Desk_init_116 : decode prog_1_method_1_code 116 = .ok (.getfield 38, 3) := by decide +kernel
theorem d_Desk_init_119 : decode prog_1_method_1_code 119 = .ok (.iload_n 2, 1) := by decide +kernel
theorem d_Desk_init_120 : decode prog_1_method_1_code 120 = .ok (.new 36, 3) := by decide +kernel
theorem d_Desk_init_123 : decode prog_1_method_1_code 123 = .ok (.dup, 1) := by decide +kernel
theorem d_Desk_init_124 : decode prog_1_method_1_code 124 = .ok (.invokespecial 42, 3) := by decide +kernel
theorem d_Desk_init_127 : decode prog_1_method_1_code 127 = .ok (.aastore, 1) := by decide +kernel
theorem d_Desk_init_128 : decode prog_1_method_1_code 128 = .ok (.iinc 2 1, 3) := by decide +kernel
theorem d_Desk_init_131 : decode prog_1_method_1_code 131 = .ok (.goto (-21), 3) := by decide +kernel
theorem d_Desk_init_134 : decode prog_1_method_1_code 134 = .ok (.aload_n 0, 1) := by decide +kernel
theorem d_Desk_init_135 : decode prog_1_method_1_code 135 = .ok (.sipush 160, 3) := by decide +kernel
theorem d_Desk_init_138 : decode prog_1_method_1_code 138 = .ok (.newarray .int, 2) := by decide +kernel
theorem d_Desk_init_140 : decode prog_1_method_1_code 140 = .ok (.putfield 43, 3) := by decide +kernel
theorem d_Desk_init_143 : decode prog_1_method_1_code 143 = .ok (.aload_n 0, 1) := by decide +kernel
theorem d_Desk_init_144 : decode prog_1_method_1_code 144 = .ok (.iconst (-1), 1) := by decide +kernel
theorem d_Desk_init_145 : decode prog_1_method_1_code 145 = .ok (.putfield 47, 3) := by decide +kernel
theorem d_Desk_init_148 : decode prog_1_method_1_code 148 = .ok (.return_, 1) := by decide +kernel
def Desk_init_bd110 (call : ax_Cf)  (k110 : Option Nat → Int32 → ax_Hp → ax_O) (x0 : Option Nat) (x2 : Int32) (h : ax_Hp) : ax_O :=
  if 4 ≤ x2 then
    ax_nw (ax_na h 1 160 (ax_I 0)) fun a43 h44 =>
    (ax_pf h44 x0 8 4 (ax_A (some a43))).bind fun h45 =>
    (ax_pf h45 x0 8 7 (ax_I (-1))).bind fun h46 =>
    ax_rv h46
  else
    (ax_gr h x0 8 3).bind fun v47 =>
    ax_nw (ax_new h 6 [ax_A none, ax_I 0, ax_I 0]) fun a48 h49 =>
    ax_cv (call 3 [ax_A (some a48)] h49) fun h50 =>
    (ax_sa h50 v47 5 6 x2 (some a48)).bind fun h52 =>
    k110 x0 (x2 + 1) h52
def Desk_init_lp110 (call : ax_Cf)  : Nat → Option Nat → Int32 → ax_Hp → ax_O
  | 0 => fun _ _ _ => none
  | n + 1 => Desk_init_bd110 call  (Desk_init_lp110 call  n)
set_option maxHeartbeats 4000000 in
set_option maxRecDepth 20000 in
theorem Desk_init_lb110 {l : Launch} {G : ax_G} {d : Nat} {call : ax_Cf} (hcall : ax_Hc l G d call) {p : Program} {e : Env} {s : State} {mi : MethodId} {args : Array Value} {below : List Frame} {meth : Method} {c : Code} {h0 : ax_Hp} (B : ax_B G p s mi meth c "SchemaDesk" prog_1_method_1_code 3 none) (E : c.exceptionTable.isEmpty = true) (Nm : meth.name = y_Desk_init.name)   {k110 : Option Nat → Int32 → ax_Hp → ax_O} (hk110 : ∀ (x0 : Option Nat) (x2 : Int32) (h : ax_Hp), ax_W G p l e s mi args below meth c 3 (d + 1) h0 110 [(0, ax_A x0), (2, ax_I x2)] [] h (k110 x0 x2 h)) (x0 : Option Nat) (x2 : Int32) (h : ax_Hp) : ax_W G p l e s mi args below meth c 3 (d + 1) h0 110 [(0, ax_A x0), (2, ax_I x2)] [] h (Desk_init_bd110 call  k110 x0 x2 h) := by
  unfold Desk_init_bd110
  refine ax_iload_n B 1 d_Desk_init_110 rfl rfl ?_
  refine ax_iconst (v := 4) B d_Desk_init_111 (by decide) ?_
  refine ax_icmp_ge B 134 d_Desk_init_112 (by decide) ?_ ?_
  · refine ax_aload_n B 0 d_Desk_init_134 rfl rfl ?_
    refine ax_sipush (v := 160) B d_Desk_init_135 (by decide) ?_
    refine ax_newa (kd := 1) (atype := .int) (dv := ax_I 0) B (by decide) (by decide) rfl wd_44 rfl (fun _ => rfl) (by decide) d_Desk_init_138 (fun a43 h44 => ?_)
    refine ax_putf (v := ax_A (some a43)) B cl_Desk (by decide) fk_Desk_43 (Or.inr ⟨wd_87, rfl, Nm, rfl⟩) (fun _ => ax_narR) (fun _ => ax_fitR) d_Desk_init_140 (fun h45 => ?_)
    refine ax_aload_n B 0 d_Desk_init_143 rfl rfl ?_
    refine ax_iconst (v := (-1)) B d_Desk_init_144 (by decide) ?_
    refine ax_putf (v := ax_I (-1)) B cl_Desk (by decide) fk_Desk_47 (Or.inl rfl) (fun _ => rfl) (fun _ => rfl) d_Desk_init_145 (fun h46 => ?_)
    exact ax_vreturn B d_Desk_init_148
  · refine ax_aload_n B 0 d_Desk_init_115 rfl rfl ?_
    refine ax_getfr B cl_Desk (by decide) fk_Desk_38 d_Desk_init_116 (fun v47 => ?_)
    refine ax_iload_n B 1 d_Desk_init_119 rfl rfl ?_
    refine ax_newo B cl_Subject wd_64 wd_66 wd_4 rfl df_Subject d_Desk_init_120 (fun a48 h49 => ?_)
    refine ax_dup B d_Desk_init_123 rfl ?_
    refine ax_callIv (av := []) (rest := [ax_A (some a48), ax_I x2, ax_A v47]) B E hm_Subject_init rfl wd_68 lk_Desk_42 d_Desk_init_124 rfl (Nat.le_of_ble_eq_true rfl) (fun _ _ hh => hcall 3 _ _ _ _ hh) (fun h50 => ?_)
    refine ax_aast (kd := 5) B cl_Subject (by decide) (by decide) rfl d_Desk_init_127 (fun h52 => ?_)
    refine ax_iinc (v := x2 + 1) (tv2 := [(2, ax_I (x2 + 1)), (0, ax_A x0)]) B 1 d_Desk_init_128 rfl (congrArg (_ + ·) (by decide)) (by decide) rfl ?_
    refine ax_goto B 110 d_Desk_init_131 (by decide) ?_
    refine ax_sub (tv2 := [(0, ax_A x0), (2, ax_I (x2 + 1))]) [1, 0] rfl ?_
    exact hk110 x0 (x2 + 1) h52
theorem Desk_init_lq110 {l : Launch} {G : ax_G} {d : Nat} {call : ax_Cf} (hcall : ax_Hc l G d call) {p : Program} {e : Env} {s : State} {mi : MethodId} {args : Array Value} {below : List Frame} {meth : Method} {c : Code} {h0 : ax_Hp} (B : ax_B G p s mi meth c "SchemaDesk" prog_1_method_1_code 3 none) (E : c.exceptionTable.isEmpty = true) (Nm : meth.name = y_Desk_init.name)   : ∀ (n : Nat) (x0 : Option Nat) (x2 : Int32) (h : ax_Hp), ax_W G p l e s mi args below meth c 3 (d + 1) h0 110 [(0, ax_A x0), (2, ax_I x2)] [] h (Desk_init_lp110 call  n x0 x2 h)
  | 0, _, _, _ => ax_none
  | n + 1, x0, x2, h => Desk_init_lb110 hcall B E Nm   (Desk_init_lq110 hcall B E Nm   n) x0 x2 h
def Desk_init_b (call : ax_Cf) (x0 : Nat) (h : ax_Hp) : ax_O :=
  ax_nw (ax_new h 2 [ax_A none, ax_I 0]) fun a1 h2 =>
  ax_nw (ax_na h2 1 160 (ax_I 0)) fun a3 h4 =>
  ax_cv (call 1 [ax_A (some a1), ax_A (some a3), ax_I 0] h4) fun h5 =>
  (ax_pf h5 (some x0) 8 0 (ax_A (some a1))).bind fun h7 =>
  ax_nw (ax_new h7 3 [ax_A none, ax_A none, ax_A none, ax_A none]) fun a8 h9 =>
  ax_nw (ax_na h9 1 160 (ax_I 0)) fun a10 h11 =>
  ax_nw (ax_na h11 1 160 (ax_I 0)) fun a12 h13 =>
  ax_nw (ax_na h13 1 160 (ax_I 0)) fun a14 h15 =>
  ax_cv (call 2 [ax_A (some a8), ax_A (some a1), ax_A (some a10), ax_A (some a12), ax_A (some a14)] h15) fun h16 =>
  (ax_pf h16 (some x0) 8 1 (ax_A (some a8))).bind fun h18 =>
  ax_nw (ax_new h18 2 [ax_A none, ax_I 0]) fun a19 h20 =>
  ax_nw (ax_na h20 1 64 (ax_I 0)) fun a21 h22 =>
  ax_cv (call 1 [ax_A (some a19), ax_A (some a21), ax_I 0] h22) fun h23 =>
  (ax_pf h23 (some x0) 8 2 (ax_A (some a19))).bind fun h25 =>
  ax_nw (ax_new h25 2 [ax_A none, ax_I 0]) fun a26 h27 =>
  ax_nw (ax_na h27 1 400 (ax_I 0)) fun a28 h29 =>
  ax_cv (call 1 [ax_A (some a26), ax_A (some a28), ax_I 0] h29) fun h30 =>
  (ax_pf h30 (some x0) 8 5 (ax_A (some a26))).bind fun h32 =>
  ax_nw (ax_new h32 2 [ax_A none, ax_I 0]) fun a33 h34 =>
  ax_nw (ax_na h34 1 400 (ax_I 0)) fun a35 h36 =>
  ax_cv (call 1 [ax_A (some a33), ax_A (some a35), ax_I 0] h36) fun h37 =>
  (ax_pf h37 (some x0) 8 6 (ax_A (some a33))).bind fun h39 =>
  ax_nw (ax_na h39 5 4 (ax_A none)) fun a40 h41 =>
  (ax_pf h41 (some x0) 8 3 (ax_A (some a40))).bind fun h42 =>
  Desk_init_lp110 call ax_fuel (some x0) 0 h42
set_option maxHeartbeats 4000000 in
set_option maxRecDepth 20000 in
theorem Desk_init_t {l : Launch} {G : ax_G} {d : Nat} {call : ax_Cf} (hcall : ax_Hc l G d call) (x0 : Nat) (h : ax_Hp) {r : ax_Rs} {h' : ax_Hp} (ho : Desk_init_b call x0 h = some (r, h')) : ax_C l G (d + 1) y_Desk_init (.code y_Desk_init prog_1_method_1_code 3 none) [ax_A (some x0)] h r h' := by
  refine ax_enter (by decide) (Nat.le_of_ble_eq_true rfl) ho (fun p e s mi args below meth c B E Nm => ?_)
  have B : ax_B G p s mi meth c "SchemaDesk" prog_1_method_1_code 3 none := B
  show ax_W G p l e s mi args below meth c 3 (d + 1) h 0 [(0, ax_A (some x0))] [] h (Desk_init_b call x0 h)
  unfold Desk_init_b
  refine ax_aload_n B 0 d_Desk_init_0 rfl rfl ?_
  refine ax_objinit B wd_26 wd_27 wd_objcode (Nat.le_of_ble_eq_true rfl) d_Desk_init_1 ?_
  refine ax_newo B cl_Row wd_29 wd_30 wd_2 rfl df_Row d_Desk_init_4 (fun a1 h2 => ?_)
  refine ax_dup B d_Desk_init_7 rfl ?_
  refine ax_sipush (v := 160) B d_Desk_init_8 (by decide) ?_
  refine ax_newa (kd := 1) (atype := .int) (dv := ax_I 0) B (by decide) (by decide) rfl wd_44 rfl (fun _ => rfl) (by decide) d_Desk_init_11 (fun a3 h4 => ?_)
  refine ax_iconst (v := 0) B d_Desk_init_13 (by decide) ?_
  refine ax_callIv (av := [ax_A (some a3), ax_I 0]) (rest := [ax_A (some a1)]) B E hm_Row_init rfl wd_32 lk_Desk_11 d_Desk_init_14 rfl (Nat.le_of_ble_eq_true rfl) (fun _ _ hh => hcall 1 _ _ _ _ hh) (fun h5 => ?_)
  refine ax_astore_n (tv2 := [(1, ax_A (some a1)), (0, ax_A (some x0))]) B d_Desk_init_17 rfl (by decide) rfl ?_
  refine ax_aload_n B 1 d_Desk_init_18 rfl rfl ?_
  refine ax_aload_n B 0 d_Desk_init_19 rfl rfl ?_
  refine ax_putf (v := ax_A (some a1)) B cl_Desk (by decide) fk_Desk_14 (Or.inr ⟨wd_83, rfl, Nm, rfl⟩) (fun _ => ax_narO) (fun _ => ax_fitO) d_Desk_init_20 (fun h7 => ?_)
  refine ax_aload_n B 1 d_Desk_init_23 rfl rfl ?_
  refine ax_newo B cl_Schema wd_45 wd_46 wd_3 rfl df_Schema d_Desk_init_24 (fun a8 h9 => ?_)
  refine ax_dup B d_Desk_init_27 rfl ?_
  refine ax_aload_n B 0 d_Desk_init_28 rfl rfl ?_
  refine ax_sipush (v := 160) B d_Desk_init_29 (by decide) ?_
  refine ax_newa (kd := 1) (atype := .int) (dv := ax_I 0) B (by decide) (by decide) rfl wd_44 rfl (fun _ => rfl) (by decide) d_Desk_init_32 (fun a10 h11 => ?_)
  refine ax_sipush (v := 160) B d_Desk_init_34 (by decide) ?_
  refine ax_newa (kd := 1) (atype := .int) (dv := ax_I 0) B (by decide) (by decide) rfl wd_44 rfl (fun _ => rfl) (by decide) d_Desk_init_37 (fun a12 h13 => ?_)
  refine ax_sipush (v := 160) B d_Desk_init_39 (by decide) ?_
  refine ax_newa (kd := 1) (atype := .int) (dv := ax_I 0) B (by decide) (by decide) rfl wd_44 rfl (fun _ => rfl) (by decide) d_Desk_init_42 (fun a14 h15 => ?_)
  refine ax_callIv (av := [ax_A (some a1), ax_A (some a10), ax_A (some a12), ax_A (some a14)]) (rest := [ax_A (some a8), ax_A (some x0)]) B E hm_Schema_init rfl wd_48 lk_Desk_20 d_Desk_init_44 rfl (Nat.le_of_ble_eq_true rfl) (fun _ _ hh => hcall 2 _ _ _ _ hh) (fun h16 => ?_)
  refine ax_putf (v := ax_A (some a8)) B cl_Desk (by decide) fk_Desk_23 (Or.inr ⟨wd_84, rfl, Nm, rfl⟩) (fun _ => ax_narO) (fun _ => ax_fitO) d_Desk_init_47 (fun h18 => ?_)
  refine ax_aload_n B 1 d_Desk_init_50 rfl rfl ?_
  refine ax_newo B cl_Row wd_29 wd_30 wd_2 rfl df_Row d_Desk_init_51 (fun a19 h20 => ?_)
  refine ax_dup B d_Desk_init_54 rfl ?_
  refine ax_bipush (v := 64) B d_Desk_init_55 (by decide) ?_
  refine ax_newa (kd := 1) (atype := .int) (dv := ax_I 0) B (by decide) (by decide) rfl wd_44 rfl (fun _ => rfl) (by decide) d_Desk_init_57 (fun a21 h22 => ?_)
  refine ax_iconst (v := 0) B d_Desk_init_59 (by decide) ?_
  refine ax_callIv (av := [ax_A (some a21), ax_I 0]) (rest := [ax_A (some a19), ax_A (some x0)]) B E hm_Row_init rfl wd_32 lk_Desk_11 d_Desk_init_60 rfl (Nat.le_of_ble_eq_true rfl) (fun _ _ hh => hcall 1 _ _ _ _ hh) (fun h23 => ?_)
  refine ax_putf (v := ax_A (some a19)) B cl_Desk (by decide) fk_Desk_27 (Or.inr ⟨wd_85, rfl, Nm, rfl⟩) (fun _ => ax_narO) (fun _ => ax_fitO) d_Desk_init_63 (fun h25 => ?_)
  refine ax_aload_n B 1 d_Desk_init_66 rfl rfl ?_
  refine ax_newo B cl_Row wd_29 wd_30 wd_2 rfl df_Row d_Desk_init_67 (fun a26 h27 => ?_)
  refine ax_dup B d_Desk_init_70 rfl ?_
  refine ax_sipush (v := 400) B d_Desk_init_71 (by decide) ?_
  refine ax_newa (kd := 1) (atype := .int) (dv := ax_I 0) B (by decide) (by decide) rfl wd_44 rfl (fun _ => rfl) (by decide) d_Desk_init_74 (fun a28 h29 => ?_)
  refine ax_iconst (v := 0) B d_Desk_init_76 (by decide) ?_
  refine ax_callIv (av := [ax_A (some a28), ax_I 0]) (rest := [ax_A (some a26), ax_A (some x0)]) B E hm_Row_init rfl wd_32 lk_Desk_11 d_Desk_init_77 rfl (Nat.le_of_ble_eq_true rfl) (fun _ _ hh => hcall 1 _ _ _ _ hh) (fun h30 => ?_)
  refine ax_putf (v := ax_A (some a26)) B cl_Desk (by decide) fk_Desk_30 (Or.inl rfl) (fun _ => ax_narO) (fun _ => ax_fitO) d_Desk_init_80 (fun h32 => ?_)
  refine ax_aload_n B 1 d_Desk_init_83 rfl rfl ?_
  refine ax_newo B cl_Row wd_29 wd_30 wd_2 rfl df_Row d_Desk_init_84 (fun a33 h34 => ?_)
  refine ax_dup B d_Desk_init_87 rfl ?_
  refine ax_sipush (v := 400) B d_Desk_init_88 (by decide) ?_
  refine ax_newa (kd := 1) (atype := .int) (dv := ax_I 0) B (by decide) (by decide) rfl wd_44 rfl (fun _ => rfl) (by decide) d_Desk_init_91 (fun a35 h36 => ?_)
  refine ax_iconst (v := 0) B d_Desk_init_93 (by decide) ?_
  refine ax_callIv (av := [ax_A (some a35), ax_I 0]) (rest := [ax_A (some a33), ax_A (some x0)]) B E hm_Row_init rfl wd_32 lk_Desk_11 d_Desk_init_94 rfl (Nat.le_of_ble_eq_true rfl) (fun _ _ hh => hcall 1 _ _ _ _ hh) (fun h37 => ?_)
  refine ax_putf (v := ax_A (some a33)) B cl_Desk (by decide) fk_Desk_33 (Or.inl rfl) (fun _ => ax_narO) (fun _ => ax_fitO) d_Desk_init_97 (fun h39 => ?_)
  refine ax_aload_n B 1 d_Desk_init_100 rfl rfl ?_
  refine ax_iconst (v := 4) B d_Desk_init_101 (by decide) ?_
  refine ax_anew (kd := 5) B (by decide) (by decide) rfl wd_64 wd_65 d_Desk_init_102 (fun a40 h41 => ?_)
  refine ax_putf (v := ax_A (some a40)) B cl_Desk (by decide) fk_Desk_38 (Or.inr ⟨wd_86, rfl, Nm, rfl⟩) (fun _ => ax_narR) (fun _ => ax_fitR) d_Desk_init_105 (fun h42 => ?_)
  refine ax_iconst (v := 0) B d_Desk_init_108 (by decide) ?_
  refine ax_istore_n (tv2 := [(2, ax_I 0), (1, ax_A (some a1)), (0, ax_A (some x0))]) B d_Desk_init_109 rfl (by decide) rfl ?_
  refine ax_sub (tv2 := [(0, ax_A (some x0)), (2, ax_I 0)]) [2, 0] rfl ?_
  exact Desk_init_lq110 hcall B E Nm ax_fuel (some x0) 0 h42

theorem d_Desk_write_0 : decode prog_1_method_2_code 0 = .ok (.iconst 0, 1) := by decide +kernel
theorem d_Desk_write_1 : decode prog_1_method_2_code 1 = .ok (.istore_n 3, 1) := by decide +kernel
theorem d_Desk_write_2 : decode prog_1_method_2_code 2 = .ok (.iconst 0, 1) := by decide +kernel
theorem d_Desk_write_3 : decode prog_1_method_2_code 3 = .ok (.istore 4, 2) := by decide +kernel
theorem d_Desk_write_5 : decode prog_1_method_2_code 5 = .ok (.iload 4, 2) := by decide +kernel
theorem d_Desk_write_7 : decode prog_1_method_2_code 7 = .ok (.bipush 8, 2) := by decide +kernel
theorem d_Desk_write_9 : decode prog_1_method_2_code 9 = .ok (.if_icmp .ge 35, 3) := by decide +kernel
theorem d_Desk_write_12 : decode prog_1_method_2_code 12 = .ok (.lload_n 1, 1) := by decide +kernel
theorem d_Desk_write_13 : decode prog_1_method_2_code 13 = .ok (.iload 4, 2) := by decide +kernel
theorem d_Desk_write_15 : decode prog_1_method_2_code 15 = .ok (.invokestatic 51, 3) := by decide +kernel
theorem d_Desk_write_18 : decode prog_1_method_2_code 18 = .ok (.istore 5, 2) := by decide +kernel
theorem d_Desk_write_20 : decode prog_1_method_2_code 20 = .ok (.iload 5, 2) := by decide +kernel
theorem d_Desk_write_22 : decode prog_1_method_2_code 22 = .ok (.ifCond .eq 16, 3) := by decide +kernel
theorem d_Desk_write_25 : decode prog_1_method_2_code 25 = .ok (.iload 5, 2) := by decide +kernel
theorem d_Desk_write_27 : decode prog_1_method_2_code 27 = .ok (.invokestatic 55, 3) := by decide +kernel
theorem d_Desk_write_30 : decode prog_1_method_2_code 30 = .ok (.ifCond .ne 5, 3) := by decide +kernel
theorem d_Desk_write_33 : decode prog_1_method_2_code 33 = .ok (.iconst 0, 1) := by decide +kernel
theorem d_Desk_write_34 : decode prog_1_method_2_code 34 = .ok (.ireturn, 1) := by decide +kernel
theorem d_Desk_write_35 : decode prog_1_method_2_code 35 = .ok (.iinc 3 1, 3) := by decide +kernel
theorem d_Desk_write_38 : decode prog_1_method_2_code 38 = .ok (.iinc 4 1, 3) := by decide +kernel
theorem d_Desk_write_41 : decode prog_1_method_2_code 41 = .ok (.goto (-36), 3) := by decide +kernel
theorem d_Desk_write_44 : decode prog_1_method_2_code 44 = .ok (.iload_n 3, 1) := by decide +kernel
theorem d_Desk_write_45 : decode prog_1_method_2_code 45 = .ok (.aload_n 0, 1) := by decide +kernel
theorem d_Desk_write_46 : decode prog_1_method_2_code 46 = .ok (.getfield 14, 3) := by decide +kernel
theorem d_Desk_write_49 : decode prog_1_method_2_code 49 = .ok (.invokevirtual 59, 3) := by decide +kernel
theorem d_Desk_write_52 : decode prog_1_method_2_code 52 = .ok (.if_icmp .le 5, 3) := by decide +kernel
theorem d_Desk_write_55 : decode prog_1_method_2_code 55 = .ok (.iconst 0, 1) := by decide +kernel
theorem d_Desk_write_56 : decode prog_1_method_2_code 56 = .ok (.ireturn, 1) := by decide +kernel
theorem d_Desk_write_57 : decode prog_1_method_2_code 57 = .ok (.iconst 0, 1) := by decide +kernel
theorem d_Desk_write_58 : decode prog_1_method_2_code 58 = .ok (.istore 4, 2) := by decide +kernel
theorem d_Desk_write_60 : decode prog_1_method_2_code 60 = .ok (.iload 4, 2) := by decide +kernel
theorem d_Desk_write_62 : decode prog_1_method_2_code 62 = .ok (.bipush 8, 2) := by decide +kernel
theorem d_Desk_write_64 : decode prog_1_method_2_code 64 = .ok (.if_icmp .ge 32, 3) := by decide +kernel
theorem d_Desk_write_67 : decode prog_1_method_2_code 67 = .ok (.lload_n 1, 1) := by decide +kernel
theorem d_Desk_write_68 : decode prog_1_method_2_code 68 = .ok (.iload 4, 2) := by decide +kernel
theorem d_Desk_write_70 : decode prog_1_method_2_code 70 = .ok (.invokestatic 51, 3) := by decide +kernel
theorem d_Desk_write_73 : decode prog_1_method_2_code 73 = .ok (.istore 5, 2) := by decide +kernel
theorem d_Desk_write_75 : decode prog_1_method_2_code 75 = .ok (.iload 5, 2) := by decide +kernel
theorem d_Desk_write_77 : decode prog_1_method_2_code 77 = .ok (.ifCond .eq 13, 3) := by decide +kernel
theorem d_Desk_write_80 : decode prog_1_method_2_code 80 = .ok (.aload_n 0, 1) := by decide +kernel
theorem d_Desk_write_81 : decode prog_1_method_2_code 81 = .ok (.getfield 14, 3) := by decide +kernel
theorem d_Desk_write_84 : decode prog_1_method_2_code 84 = .ok (.iload 5, 2) := by decide +kernel
theorem d_Desk_write_86 : decode prog_1_method_2_code 86 = .ok (.invokevirtual 63, 3) := by decide +kernel
theorem d_Desk_write_89 : decode prog_1_method_2_code 89 = .ok (.pop, 1) := by decide +kernel
theorem d_Desk_write_90 : decode prog_1_method_2_code 90 = .ok (.iinc 4 1, 3) := by decide +kernel
theorem d_Desk_write_93 : decode prog_1_method_2_code 93 = .ok (.goto (-33), 3) := by decide +kernel
theorem d_Desk_write_96 : decode prog_1_method_2_code 96 = .ok (.iconst 1, 1) := by decide +kernel
theorem d_Desk_write_97 : decode prog_1_method_2_code 97 = .ok (.ireturn, 1) := by decide +kernel
def Desk_write_bd60 (call : ax_Cf)  (k60 : Option Nat → Int64 → Int32 → ax_Hp → ax_O) (x0 : Option Nat) (x1 : Int64) (x4 : Int32) (h : ax_Hp) : ax_O :=
  if 8 ≤ x4 then
    ax_rz 1 h
  else
    ax_ci (call 5 [ax_L x1, ax_I x4] h) fun v5 h4 =>
    if v5 = 0 then
      k60 x0 x1 (x4 + 1) h4
    else
      (ax_gr h4 x0 8 0).bind fun v6 =>
      ax_on h4 v6 2 <| ax_ci (call 8 [ax_A v6, ax_I v5] h4) fun v8 h7 =>
      k60 x0 x1 (x4 + 1) h7
def Desk_write_lp60 (call : ax_Cf)  : Nat → Option Nat → Int64 → Int32 → ax_Hp → ax_O
  | 0 => fun _ _ _ _ => none
  | n + 1 => Desk_write_bd60 call  (Desk_write_lp60 call  n)
set_option maxHeartbeats 4000000 in
set_option maxRecDepth 20000 in
theorem Desk_write_lb60 {l : Launch} {G : ax_G} {d : Nat} {call : ax_Cf} (hcall : ax_Hc l G d call) {p : Program} {e : Env} {s : State} {mi : MethodId} {args : Array Value} {below : List Frame} {meth : Method} {c : Code} {h0 : ax_Hp} (B : ax_B G p s mi meth c "SchemaDesk" prog_1_method_2_code 6 (some (.boolean))) (E : c.exceptionTable.isEmpty = true) (Nm : meth.name = y_Desk_write.name)   {k60 : Option Nat → Int64 → Int32 → ax_Hp → ax_O} (hk60 : ∀ (x0 : Option Nat) (x1 : Int64) (x4 : Int32) (h : ax_Hp), ax_W G p l e s mi args below meth c 6 (d + 1) h0 60 [(0, ax_A x0), (1, ax_L x1), (4, ax_I x4)] [] h (k60 x0 x1 x4 h)) (x0 : Option Nat) (x1 : Int64) (x4 : Int32) (h : ax_Hp) : ax_W G p l e s mi args below meth c 6 (d + 1) h0 60 [(0, ax_A x0), (1, ax_L x1), (4, ax_I x4)] [] h (Desk_write_bd60 call  k60 x0 x1 x4 h) := by
  unfold Desk_write_bd60
  refine ax_iload B 2 d_Desk_write_60 rfl ?_
  refine ax_bipush (v := 8) B d_Desk_write_62 (by decide) ?_
  refine ax_icmp_ge B 96 d_Desk_write_64 (by decide) ?_ ?_
  · refine ax_iconst (v := 1) B d_Desk_write_96 (by decide) ?_
    exact ax_zreturn B d_Desk_write_97
  · refine ax_lload_n B 1 d_Desk_write_67 rfl rfl ?_
    refine ax_iload B 2 d_Desk_write_68 rfl ?_
    refine ax_callSi (av := [ax_L x1, ax_I x4]) (rest := []) B E hm_Desk_byteOf wd_113 lk_Desk_51 d_Desk_write_70 rfl (Nat.le_of_ble_eq_true rfl) (fun _ _ hh => hcall 5 _ _ _ _ hh) (fun v5 h4 => ?_)
    refine ax_istore (tv2 := [(5, ax_I v5), (0, ax_A x0), (1, ax_L x1), (4, ax_I x4)]) B d_Desk_write_73 (by decide) rfl ?_
    refine ax_iload B 0 d_Desk_write_75 rfl ?_
    refine ax_if_eq B 90 d_Desk_write_77 (by decide) ?_ ?_
    · refine ax_iinc (v := x4 + 1) (tv2 := [(4, ax_I (x4 + 1)), (5, ax_I v5), (0, ax_A x0), (1, ax_L x1)]) B 3 d_Desk_write_90 rfl (congrArg (_ + ·) (by decide)) (by decide) rfl ?_
      refine ax_goto B 60 d_Desk_write_93 (by decide) ?_
      refine ax_sub (tv2 := [(0, ax_A x0), (1, ax_L x1), (4, ax_I (x4 + 1))]) [2, 3, 0] rfl ?_
      exact hk60 x0 x1 (x4 + 1) h4
    · refine ax_aload_n B 1 d_Desk_write_80 rfl rfl ?_
      refine ax_getfr B cl_Desk (by decide) fk_Desk_14 d_Desk_write_81 (fun v6 => ?_)
      refine ax_iload B 0 d_Desk_write_84 rfl ?_
      refine ax_callVi (av := [ax_I v5]) (rest := []) B E hm_Row_add cl_Row rfl wd_123 wd_124 lk_Desk_63 d_Desk_write_86 rfl (Nat.le_of_ble_eq_true rfl) (fun _ _ hh => hcall 8 _ _ _ _ hh) (fun v8 h7 => ?_)
      refine ax_pop B d_Desk_write_89 rfl ?_
      refine ax_iinc (v := x4 + 1) (tv2 := [(4, ax_I (x4 + 1)), (5, ax_I v5), (0, ax_A x0), (1, ax_L x1)]) B 3 d_Desk_write_90 rfl (congrArg (_ + ·) (by decide)) (by decide) rfl ?_
      refine ax_goto B 60 d_Desk_write_93 (by decide) ?_
      refine ax_sub (tv2 := [(0, ax_A x0), (1, ax_L x1), (4, ax_I (x4 + 1))]) [2, 3, 0] rfl ?_
      exact hk60 x0 x1 (x4 + 1) h7
theorem Desk_write_lq60 {l : Launch} {G : ax_G} {d : Nat} {call : ax_Cf} (hcall : ax_Hc l G d call) {p : Program} {e : Env} {s : State} {mi : MethodId} {args : Array Value} {below : List Frame} {meth : Method} {c : Code} {h0 : ax_Hp} (B : ax_B G p s mi meth c "SchemaDesk" prog_1_method_2_code 6 (some (.boolean))) (E : c.exceptionTable.isEmpty = true) (Nm : meth.name = y_Desk_write.name)   : ∀ (n : Nat) (x0 : Option Nat) (x1 : Int64) (x4 : Int32) (h : ax_Hp), ax_W G p l e s mi args below meth c 6 (d + 1) h0 60 [(0, ax_A x0), (1, ax_L x1), (4, ax_I x4)] [] h (Desk_write_lp60 call  n x0 x1 x4 h)
  | 0, _, _, _, _ => ax_none
  | n + 1, x0, x1, x4, h => Desk_write_lb60 hcall B E Nm   (Desk_write_lq60 hcall B E Nm   n) x0 x1 x4 h
def Desk_write_bd5 (call : ax_Cf)  (k5 : Option Nat → Int64 → Int32 → Int32 → ax_Hp → ax_O) (x0 : Option Nat) (x1 : Int64) (x3 : Int32) (x4 : Int32) (h : ax_Hp) : ax_O :=
  if 8 ≤ x4 then
    (ax_gr h x0 8 0).bind fun v1 =>
    ax_on h v1 2 <| ax_ci (call 7 [ax_A v1] h) fun v3 h2 =>
    if x3 ≤ v3 then
      Desk_write_lp60 call ax_fuel x0 x1 0 h2
    else
      ax_rz 0 h2
  else
    ax_ci (call 5 [ax_L x1, ax_I x4] h) fun v10 h9 =>
    if v10 = 0 then
      k5 x0 x1 x3 (x4 + 1) h9
    else
      ax_ci (call 6 [ax_I v10] h9) fun v12 h11 =>
      if v12 = 0 then
        ax_rz 0 h11
      else
        k5 x0 x1 (x3 + 1) (x4 + 1) h11
def Desk_write_lp5 (call : ax_Cf)  : Nat → Option Nat → Int64 → Int32 → Int32 → ax_Hp → ax_O
  | 0 => fun _ _ _ _ _ => none
  | n + 1 => Desk_write_bd5 call  (Desk_write_lp5 call  n)
set_option maxHeartbeats 4000000 in
set_option maxRecDepth 20000 in
theorem Desk_write_lb5 {l : Launch} {G : ax_G} {d : Nat} {call : ax_Cf} (hcall : ax_Hc l G d call) {p : Program} {e : Env} {s : State} {mi : MethodId} {args : Array Value} {below : List Frame} {meth : Method} {c : Code} {h0 : ax_Hp} (B : ax_B G p s mi meth c "SchemaDesk" prog_1_method_2_code 6 (some (.boolean))) (E : c.exceptionTable.isEmpty = true) (Nm : meth.name = y_Desk_write.name)   {k5 : Option Nat → Int64 → Int32 → Int32 → ax_Hp → ax_O} (hk5 : ∀ (x0 : Option Nat) (x1 : Int64) (x3 : Int32) (x4 : Int32) (h : ax_Hp), ax_W G p l e s mi args below meth c 6 (d + 1) h0 5 [(0, ax_A x0), (1, ax_L x1), (3, ax_I x3), (4, ax_I x4)] [] h (k5 x0 x1 x3 x4 h)) (x0 : Option Nat) (x1 : Int64) (x3 : Int32) (x4 : Int32) (h : ax_Hp) : ax_W G p l e s mi args below meth c 6 (d + 1) h0 5 [(0, ax_A x0), (1, ax_L x1), (3, ax_I x3), (4, ax_I x4)] [] h (Desk_write_bd5 call  k5 x0 x1 x3 x4 h) := by
  unfold Desk_write_bd5
  refine ax_iload B 3 d_Desk_write_5 rfl ?_
  refine ax_bipush (v := 8) B d_Desk_write_7 (by decide) ?_
  refine ax_icmp_ge B 44 d_Desk_write_9 (by decide) ?_ ?_
  · refine ax_iload_n B 2 d_Desk_write_44 rfl rfl ?_
    refine ax_aload_n B 0 d_Desk_write_45 rfl rfl ?_
    refine ax_getfr B cl_Desk (by decide) fk_Desk_14 d_Desk_write_46 (fun v1 => ?_)
    refine ax_callVi (av := []) (rest := [ax_I x3]) B E hm_Row_room cl_Row rfl wd_119 wd_120 lk_Desk_59 d_Desk_write_49 rfl (Nat.le_of_ble_eq_true rfl) (fun _ _ hh => hcall 7 _ _ _ _ hh) (fun v3 h2 => ?_)
    refine ax_icmp_le B 57 d_Desk_write_52 (by decide) ?_ ?_
    · refine ax_iconst (v := 0) B d_Desk_write_57 (by decide) ?_
      refine ax_istore (tv2 := [(4, ax_I 0), (0, ax_A x0), (1, ax_L x1), (3, ax_I x3)]) B d_Desk_write_58 (by decide) rfl ?_
      refine ax_sub (tv2 := [(0, ax_A x0), (1, ax_L x1), (4, ax_I 0)]) [1, 2, 0] rfl ?_
      exact Desk_write_lq60 hcall B E Nm ax_fuel x0 x1 0 h2
    · refine ax_iconst (v := 0) B d_Desk_write_55 (by decide) ?_
      exact ax_zreturn B d_Desk_write_56
  · refine ax_lload_n B 1 d_Desk_write_12 rfl rfl ?_
    refine ax_iload B 3 d_Desk_write_13 rfl ?_
    refine ax_callSi (av := [ax_L x1, ax_I x4]) (rest := []) B E hm_Desk_byteOf wd_113 lk_Desk_51 d_Desk_write_15 rfl (Nat.le_of_ble_eq_true rfl) (fun _ _ hh => hcall 5 _ _ _ _ hh) (fun v10 h9 => ?_)
    refine ax_istore (tv2 := [(5, ax_I v10), (0, ax_A x0), (1, ax_L x1), (3, ax_I x3), (4, ax_I x4)]) B d_Desk_write_18 (by decide) rfl ?_
    refine ax_iload B 0 d_Desk_write_20 rfl ?_
    refine ax_if_eq B 38 d_Desk_write_22 (by decide) ?_ ?_
    · refine ax_iinc (v := x4 + 1) (tv2 := [(4, ax_I (x4 + 1)), (5, ax_I v10), (0, ax_A x0), (1, ax_L x1), (3, ax_I x3)]) B 4 d_Desk_write_38 rfl (congrArg (_ + ·) (by decide)) (by decide) rfl ?_
      refine ax_goto B 5 d_Desk_write_41 (by decide) ?_
      refine ax_sub (tv2 := [(0, ax_A x0), (1, ax_L x1), (3, ax_I x3), (4, ax_I (x4 + 1))]) [2, 3, 4, 0] rfl ?_
      exact hk5 x0 x1 x3 (x4 + 1) h9
    · refine ax_iload B 0 d_Desk_write_25 rfl ?_
      refine ax_callSi (av := [ax_I v10]) (rest := []) B E hm_Desk_isCharacter wd_116 lk_Desk_55 d_Desk_write_27 rfl (Nat.le_of_ble_eq_true rfl) (fun _ _ hh => hcall 6 _ _ _ _ hh) (fun v12 h11 => ?_)
      refine ax_if_ne B 35 d_Desk_write_30 (by decide) ?_ ?_
      · refine ax_iinc (v := x3 + 1) (tv2 := [(3, ax_I (x3 + 1)), (5, ax_I v10), (0, ax_A x0), (1, ax_L x1), (4, ax_I x4)]) B 3 d_Desk_write_35 rfl (congrArg (_ + ·) (by decide)) (by decide) rfl ?_
        refine ax_iinc (v := x4 + 1) (tv2 := [(4, ax_I (x4 + 1)), (3, ax_I (x3 + 1)), (5, ax_I v10), (0, ax_A x0), (1, ax_L x1)]) B 4 d_Desk_write_38 rfl (congrArg (_ + ·) (by decide)) (by decide) rfl ?_
        refine ax_goto B 5 d_Desk_write_41 (by decide) ?_
        refine ax_sub (tv2 := [(0, ax_A x0), (1, ax_L x1), (3, ax_I (x3 + 1)), (4, ax_I (x4 + 1))]) [3, 4, 1, 0] rfl ?_
        exact hk5 x0 x1 (x3 + 1) (x4 + 1) h11
      · refine ax_iconst (v := 0) B d_Desk_write_33 (by decide) ?_
        exact ax_zreturn B d_Desk_write_34
theorem Desk_write_lq5 {l : Launch} {G : ax_G} {d : Nat} {call : ax_Cf} (hcall : ax_Hc l G d call) {p : Program} {e : Env} {s : State} {mi : MethodId} {args : Array Value} {below : List Frame} {meth : Method} {c : Code} {h0 : ax_Hp} (B : ax_B G p s mi meth c "SchemaDesk" prog_1_method_2_code 6 (some (.boolean))) (E : c.exceptionTable.isEmpty = true) (Nm : meth.name = y_Desk_write.name)   : ∀ (n : Nat) (x0 : Option Nat) (x1 : Int64) (x3 : Int32) (x4 : Int32) (h : ax_Hp), ax_W G p l e s mi args below meth c 6 (d + 1) h0 5 [(0, ax_A x0), (1, ax_L x1), (3, ax_I x3), (4, ax_I x4)] [] h (Desk_write_lp5 call  n x0 x1 x3 x4 h)
  | 0, _, _, _, _, _ => ax_none
  | n + 1, x0, x1, x3, x4, h => Desk_write_lb5 hcall B E Nm   (Desk_write_lq5 hcall B E Nm   n) x0 x1 x3 x4 h
def Desk_write_b (call : ax_Cf) (x0 : Option Nat) (x1 : Int64) (h : ax_Hp) : ax_O :=
  Desk_write_lp5 call ax_fuel x0 x1 0 0 h
set_option maxHeartbeats 4000000 in
set_option maxRecDepth 20000 in
theorem Desk_write_t {l : Launch} {G : ax_G} {d : Nat} {call : ax_Cf} (hcall : ax_Hc l G d call) (x0 : Option Nat) (x1 : Int64) (h : ax_Hp) {r : ax_Rs} {h' : ax_Hp} (ho : Desk_write_b call x0 x1 h = some (r, h')) : ax_C l G (d + 1) y_Desk_write (.code y_Desk_write prog_1_method_2_code 6 (some (.boolean))) [ax_A x0, ax_L x1] h r h' := by
  refine ax_enter (by decide) (Nat.le_of_ble_eq_true rfl) ho (fun p e s mi args below meth c B E Nm => ?_)
  have B : ax_B G p s mi meth c "SchemaDesk" prog_1_method_2_code 6 (some (.boolean)) := B
  show ax_W G p l e s mi args below meth c 6 (d + 1) h 0 [(0, ax_A x0), (1, ax_L x1)] [] h (Desk_write_b call x0 x1 h)
  unfold Desk_write_b
  refine ax_iconst (v := 0) B d_Desk_write_0 (by decide) ?_
  refine ax_istore_n (tv2 := [(3, ax_I 0), (0, ax_A x0), (1, ax_L x1)]) B d_Desk_write_1 rfl (by decide) rfl ?_
  refine ax_iconst (v := 0) B d_Desk_write_2 (by decide) ?_
  refine ax_istore (tv2 := [(4, ax_I 0), (3, ax_I 0), (0, ax_A x0), (1, ax_L x1)]) B d_Desk_write_3 (by decide) rfl ?_
  refine ax_sub (tv2 := [(0, ax_A x0), (1, ax_L x1), (3, ax_I 0), (4, ax_I 0)]) [2, 3, 1, 0] rfl ?_
  exact Desk_write_lq5 hcall B E Nm ax_fuel x0 x1 0 0 h

theorem d_Desk_byteOf_0 : decode prog_1_method_19_code 0 = .ok (.lload_n 0, 1) := by decide +kernel
theorem d_Desk_byteOf_1 : decode prog_1_method_19_code 1 = .ok (.bipush 8, 2) := by decide +kernel
theorem d_Desk_byteOf_3 : decode prog_1_method_19_code 3 = .ok (.iload_n 2, 1) := by decide +kernel
theorem d_Desk_byteOf_4 : decode prog_1_method_19_code 4 = .ok (.imul, 1) := by decide +kernel
theorem d_Desk_byteOf_5 : decode prog_1_method_19_code 5 = .ok (.lushr, 1) := by decide +kernel
theorem d_Desk_byteOf_6 : decode prog_1_method_19_code 6 = .ok (.l2i, 1) := by decide +kernel
theorem d_Desk_byteOf_7 : decode prog_1_method_19_code 7 = .ok (.sipush 255, 3) := by decide +kernel
theorem d_Desk_byteOf_10 : decode prog_1_method_19_code 10 = .ok (.iand, 1) := by decide +kernel
theorem d_Desk_byteOf_11 : decode prog_1_method_19_code 11 = .ok (.ireturn, 1) := by decide +kernel
def Desk_byteOf_b (call : ax_Cf) (x0 : Int64) (x2 : Int32) (h : ax_Hp) : ax_O :=
  ax_ri ((((x0.toUInt64 >>> ((8 * x2).toInt64.toUInt64 &&& Int64.toUInt64 63)).toInt64).toInt32) &&& 255) h
set_option maxHeartbeats 4000000 in
set_option maxRecDepth 20000 in
theorem Desk_byteOf_t {l : Launch} {G : ax_G} {d : Nat} {call : ax_Cf} (hcall : ax_Hc l G d call) (x0 : Int64) (x2 : Int32) (h : ax_Hp) {r : ax_Rs} {h' : ax_Hp} (ho : Desk_byteOf_b call x0 x2 h = some (r, h')) : ax_C l G (d + 1) y_Desk_byteOf (.code y_Desk_byteOf prog_1_method_19_code 3 (some (.int))) [ax_L x0, ax_I x2] h r h' := by
  refine ax_enter (by decide) (Nat.le_of_ble_eq_true rfl) ho (fun p e s mi args below meth c B E Nm => ?_)
  have B : ax_B G p s mi meth c "SchemaDesk" prog_1_method_19_code 3 (some (.int)) := B
  show ax_W G p l e s mi args below meth c 3 (d + 1) h 0 [(0, ax_L x0), (2, ax_I x2)] [] h (Desk_byteOf_b call x0 x2 h)
  unfold Desk_byteOf_b
  refine ax_lload_n B 0 d_Desk_byteOf_0 rfl rfl ?_
  refine ax_bipush (v := 8) B d_Desk_byteOf_1 (by decide) ?_
  refine ax_iload_n B 1 d_Desk_byteOf_3 rfl rfl ?_
  refine ax_imul B d_Desk_byteOf_4 ?_
  refine ax_lushr B d_Desk_byteOf_5 ?_
  refine ax_l2i B d_Desk_byteOf_6 ?_
  refine ax_sipush (v := 255) B d_Desk_byteOf_7 (by decide) ?_
  refine ax_iand B d_Desk_byteOf_10 ?_
  exact ax_ireturn B d_Desk_byteOf_11

theorem d_Desk_isCharacter_0 : decode prog_1_method_20_code 0 = .ok (.iload_n 0, 1) := by decide +kernel
theorem d_Desk_isCharacter_1 : decode prog_1_method_20_code 1 = .ok (.bipush 32, 2) := by decide +kernel
theorem d_Desk_isCharacter_3 : decode prog_1_method_20_code 3 = .ok (.if_icmp .lt 13, 3) := by decide +kernel
theorem d_Desk_isCharacter_6 : decode prog_1_method_20_code 6 = .ok (.iload_n 0, 1) := by decide +kernel
theorem d_Desk_isCharacter_7 : decode prog_1_method_20_code 7 = .ok (.bipush 126, 2) := by decide +kernel
theorem d_Desk_isCharacter_9 : decode prog_1_method_20_code 9 = .ok (.if_icmp .gt 7, 3) := by decide +kernel
theorem d_Desk_isCharacter_12 : decode prog_1_method_20_code 12 = .ok (.iconst 1, 1) := by decide +kernel
theorem d_Desk_isCharacter_13 : decode prog_1_method_20_code 13 = .ok (.goto 4, 3) := by decide +kernel
theorem d_Desk_isCharacter_16 : decode prog_1_method_20_code 16 = .ok (.iconst 0, 1) := by decide +kernel
theorem d_Desk_isCharacter_17 : decode prog_1_method_20_code 17 = .ok (.ireturn, 1) := by decide +kernel
def Desk_isCharacter_b (call : ax_Cf) (x0 : Int32) (h : ax_Hp) : ax_O :=
  if x0 < 32 then
    ax_rz 0 h
  else
    if 126 < x0 then
      ax_rz 0 h
    else
      ax_rz 1 h
set_option maxHeartbeats 4000000 in
set_option maxRecDepth 20000 in
theorem Desk_isCharacter_t {l : Launch} {G : ax_G} {d : Nat} {call : ax_Cf} (hcall : ax_Hc l G d call) (x0 : Int32) (h : ax_Hp) {r : ax_Rs} {h' : ax_Hp} (ho : Desk_isCharacter_b call x0 h = some (r, h')) : ax_C l G (d + 1) y_Desk_isCharacter (.code y_Desk_isCharacter prog_1_method_20_code 1 (some (.boolean))) [ax_I x0] h r h' := by
  refine ax_enter (by decide) (Nat.le_of_ble_eq_true rfl) ho (fun p e s mi args below meth c B E Nm => ?_)
  have B : ax_B G p s mi meth c "SchemaDesk" prog_1_method_20_code 1 (some (.boolean)) := B
  show ax_W G p l e s mi args below meth c 1 (d + 1) h 0 [(0, ax_I x0)] [] h (Desk_isCharacter_b call x0 h)
  unfold Desk_isCharacter_b
  refine ax_iload_n B 0 d_Desk_isCharacter_0 rfl rfl ?_
  refine ax_bipush (v := 32) B d_Desk_isCharacter_1 (by decide) ?_
  refine ax_icmp_lt B 16 d_Desk_isCharacter_3 (by decide) ?_ ?_
  · refine ax_iconst (v := 0) B d_Desk_isCharacter_16 (by decide) ?_
    exact ax_zreturn B d_Desk_isCharacter_17
  · refine ax_iload_n B 0 d_Desk_isCharacter_6 rfl rfl ?_
    refine ax_bipush (v := 126) B d_Desk_isCharacter_7 (by decide) ?_
    refine ax_icmp_gt B 16 d_Desk_isCharacter_9 (by decide) ?_ ?_
    · refine ax_iconst (v := 0) B d_Desk_isCharacter_16 (by decide) ?_
      exact ax_zreturn B d_Desk_isCharacter_17
    · refine ax_iconst (v := 1) B d_Desk_isCharacter_12 (by decide) ?_
      refine ax_goto B 17 d_Desk_isCharacter_13 (by decide) ?_
      exact ax_zreturn B d_Desk_isCharacter_17

theorem d_Desk_wipe_0 : decode prog_1_method_3_code 0 = .ok (.aload_n 0, 1) := by decide +kernel
theorem d_Desk_wipe_1 : decode prog_1_method_3_code 1 = .ok (.getfield 14, 3) := by decide +kernel
theorem d_Desk_wipe_4 : decode prog_1_method_3_code 4 = .ok (.invokevirtual 66, 3) := by decide +kernel
theorem d_Desk_wipe_7 : decode prog_1_method_3_code 7 = .ok (.ireturn, 1) := by decide +kernel
def Desk_wipe_b (call : ax_Cf) (x0 : Option Nat) (h : ax_Hp) : ax_O :=
  (ax_gr h x0 8 0).bind fun v1 =>
  ax_on h v1 2 <| ax_ci (call 10 [ax_A v1] h) fun v3 h2 =>
  ax_ri v3 h2
set_option maxHeartbeats 4000000 in
set_option maxRecDepth 20000 in
theorem Desk_wipe_t {l : Launch} {G : ax_G} {d : Nat} {call : ax_Cf} (hcall : ax_Hc l G d call) (x0 : Option Nat) (h : ax_Hp) {r : ax_Rs} {h' : ax_Hp} (ho : Desk_wipe_b call x0 h = some (r, h')) : ax_C l G (d + 1) y_Desk_wipe (.code y_Desk_wipe prog_1_method_3_code 1 (some (.int))) [ax_A x0] h r h' := by
  refine ax_enter (by decide) (Nat.le_of_ble_eq_true rfl) ho (fun p e s mi args below meth c B E Nm => ?_)
  have B : ax_B G p s mi meth c "SchemaDesk" prog_1_method_3_code 1 (some (.int)) := B
  show ax_W G p l e s mi args below meth c 1 (d + 1) h 0 [(0, ax_A x0)] [] h (Desk_wipe_b call x0 h)
  unfold Desk_wipe_b
  refine ax_aload_n B 0 d_Desk_wipe_0 rfl rfl ?_
  refine ax_getfr B cl_Desk (by decide) fk_Desk_14 d_Desk_wipe_1 (fun v1 => ?_)
  refine ax_callVi (av := []) (rest := []) B E hm_Row_clear cl_Row rfl wd_131 wd_132 lk_Desk_66 d_Desk_wipe_4 rfl (Nat.le_of_ble_eq_true rfl) (fun _ _ hh => hcall 10 _ _ _ _ hh) (fun v3 h2 => ?_)
  exact ax_ireturn B d_Desk_wipe_7

theorem d_Desk_feed_0 : decode prog_1_method_4_code 0 = .ok (.iload_n 3, 1) := by decide +kernel
theorem d_Desk_feed_1 : decode prog_1_method_4_code 1 = .ok (.iconst 1, 1) := by decide +kernel
theorem d_Desk_feed_2 : decode prog_1_method_4_code 2 = .ok (.if_icmp .lt 20, 3) := by decide +kernel
theorem d_Desk_feed_5 : decode prog_1_method_4_code 5 = .ok (.iload_n 3, 1) := by decide +kernel
theorem d_Desk_feed_6 : decode prog_1_method_4_code 6 = .ok (.bipush 8, 2) := by decide +kernel
theorem d_Desk_feed_8 : decode prog_1_method_4_code 8 = .ok (.if_icmp .gt 14, 3) := by decide +kernel
theorem d_Desk_feed_11 : decode prog_1_method_4_code 11 = .ok (.iload_n 3, 1) := by decide +kernel
theorem d_Desk_feed_12 : decode prog_1_method_4_code 12 = .ok (.aload_n 0, 1) := by decide +kernel
theorem d_Desk_feed_13 : decode prog_1_method_4_code 13 = .ok (.getfield 27, 3) := by decide +kernel
theorem d_Desk_feed_16 : decode prog_1_method_4_code 16 = .ok (.invokevirtual 59, 3) := by decide +kernel
theorem d_Desk_feed_19 : decode prog_1_method_4_code 19 = .ok (.if_icmp .le 5, 3) := by decide +kernel
theorem d_Desk_feed_22 : decode prog_1_method_4_code 22 = .ok (.iconst 0, 1) := by decide +kernel
theorem d_Desk_feed_23 : decode prog_1_method_4_code 23 = .ok (.ireturn, 1) := by decide +kernel
theorem d_Desk_feed_24 : decode prog_1_method_4_code 24 = .ok (.iconst 0, 1) := by decide +kernel
theorem d_Desk_feed_25 : decode prog_1_method_4_code 25 = .ok (.istore 4, 2) := by decide +kernel
theorem d_Desk_feed_27 : decode prog_1_method_4_code 27 = .ok (.iload 4, 2) := by decide +kernel
theorem d_Desk_feed_29 : decode prog_1_method_4_code 29 = .ok (.iload_n 3, 1) := by decide +kernel
theorem d_Desk_feed_30 : decode prog_1_method_4_code 30 = .ok (.if_icmp .ge 23, 3) := by decide +kernel
theorem d_Desk_feed_33 : decode prog_1_method_4_code 33 = .ok (.aload_n 0, 1) := by decide +kernel
theorem d_Desk_feed_34 : decode prog_1_method_4_code 34 = .ok (.getfield 27, 3) := by decide +kernel
theorem d_Desk_feed_37 : decode prog_1_method_4_code 37 = .ok (.lload_n 1, 1) := by decide +kernel
theorem d_Desk_feed_38 : decode prog_1_method_4_code 38 = .ok (.iload 4, 2) := by decide +kernel
theorem d_Desk_feed_40 : decode prog_1_method_4_code 40 = .ok (.invokestatic 51, 3) := by decide +kernel
theorem d_Desk_feed_43 : decode prog_1_method_4_code 43 = .ok (.invokevirtual 63, 3) := by decide +kernel
theorem d_Desk_feed_46 : decode prog_1_method_4_code 46 = .ok (.pop, 1) := by decide +kernel
theorem d_Desk_feed_47 : decode prog_1_method_4_code 47 = .ok (.iinc 4 1, 3) := by decide +kernel
theorem d_Desk_feed_50 : decode prog_1_method_4_code 50 = .ok (.goto (-23), 3) := by decide +kernel
theorem d_Desk_feed_53 : decode prog_1_method_4_code 53 = .ok (.iconst 1, 1) := by decide +kernel
theorem d_Desk_feed_54 : decode prog_1_method_4_code 54 = .ok (.ireturn, 1) := by decide +kernel
def Desk_feed_bd27 (call : ax_Cf)  (k27 : Option Nat → Int64 → Int32 → Int32 → ax_Hp → ax_O) (x0 : Option Nat) (x1 : Int64) (x3 : Int32) (x4 : Int32) (h : ax_Hp) : ax_O :=
  if x3 ≤ x4 then
    ax_rz 1 h
  else
    (ax_gr h x0 8 2).bind fun v4 =>
    ax_ci (call 5 [ax_L x1, ax_I x4] h) fun v6 h5 =>
    ax_on h5 v4 2 <| ax_ci (call 8 [ax_A v4, ax_I v6] h5) fun v8 h7 =>
    k27 x0 x1 x3 (x4 + 1) h7
def Desk_feed_lp27 (call : ax_Cf)  : Nat → Option Nat → Int64 → Int32 → Int32 → ax_Hp → ax_O
  | 0 => fun _ _ _ _ _ => none
  | n + 1 => Desk_feed_bd27 call  (Desk_feed_lp27 call  n)
set_option maxHeartbeats 4000000 in
set_option maxRecDepth 20000 in
theorem Desk_feed_lb27 {l : Launch} {G : ax_G} {d : Nat} {call : ax_Cf} (hcall : ax_Hc l G d call) {p : Program} {e : Env} {s : State} {mi : MethodId} {args : Array Value} {below : List Frame} {meth : Method} {c : Code} {h0 : ax_Hp} (B : ax_B G p s mi meth c "SchemaDesk" prog_1_method_4_code 5 (some (.boolean))) (E : c.exceptionTable.isEmpty = true) (Nm : meth.name = y_Desk_feed.name)   {k27 : Option Nat → Int64 → Int32 → Int32 → ax_Hp → ax_O} (hk27 : ∀ (x0 : Option Nat) (x1 : Int64) (x3 : Int32) (x4 : Int32) (h : ax_Hp), ax_W G p l e s mi args below meth c 5 (d + 1) h0 27 [(0, ax_A x0), (1, ax_L x1), (3, ax_I x3), (4, ax_I x4)] [] h (k27 x0 x1 x3 x4 h)) (x0 : Option Nat) (x1 : Int64) (x3 : Int32) (x4 : Int32) (h : ax_Hp) : ax_W G p l e s mi args below meth c 5 (d + 1) h0 27 [(0, ax_A x0), (1, ax_L x1), (3, ax_I x3), (4, ax_I x4)] [] h (Desk_feed_bd27 call  k27 x0 x1 x3 x4 h) := by
  unfold Desk_feed_bd27
  refine ax_iload B 3 d_Desk_feed_27 rfl ?_
  refine ax_iload_n B 2 d_Desk_feed_29 rfl rfl ?_
  refine ax_icmp_ge B 53 d_Desk_feed_30 (by decide) ?_ ?_
  · refine ax_iconst (v := 1) B d_Desk_feed_53 (by decide) ?_
    exact ax_zreturn B d_Desk_feed_54
  · refine ax_aload_n B 0 d_Desk_feed_33 rfl rfl ?_
    refine ax_getfr B cl_Desk (by decide) fk_Desk_27 d_Desk_feed_34 (fun v4 => ?_)
    refine ax_lload_n B 1 d_Desk_feed_37 rfl rfl ?_
    refine ax_iload B 3 d_Desk_feed_38 rfl ?_
    refine ax_callSi (av := [ax_L x1, ax_I x4]) (rest := [ax_A v4]) B E hm_Desk_byteOf wd_113 lk_Desk_51 d_Desk_feed_40 rfl (Nat.le_of_ble_eq_true rfl) (fun _ _ hh => hcall 5 _ _ _ _ hh) (fun v6 h5 => ?_)
    refine ax_callVi (av := [ax_I v6]) (rest := []) B E hm_Row_add cl_Row rfl wd_123 wd_124 lk_Desk_63 d_Desk_feed_43 rfl (Nat.le_of_ble_eq_true rfl) (fun _ _ hh => hcall 8 _ _ _ _ hh) (fun v8 h7 => ?_)
    refine ax_pop B d_Desk_feed_46 rfl ?_
    refine ax_iinc (v := x4 + 1) (tv2 := [(4, ax_I (x4 + 1)), (0, ax_A x0), (1, ax_L x1), (3, ax_I x3)]) B 3 d_Desk_feed_47 rfl (congrArg (_ + ·) (by decide)) (by decide) rfl ?_
    refine ax_goto B 27 d_Desk_feed_50 (by decide) ?_
    refine ax_sub (tv2 := [(0, ax_A x0), (1, ax_L x1), (3, ax_I x3), (4, ax_I (x4 + 1))]) [1, 2, 3, 0] rfl ?_
    exact hk27 x0 x1 x3 (x4 + 1) h7
theorem Desk_feed_lq27 {l : Launch} {G : ax_G} {d : Nat} {call : ax_Cf} (hcall : ax_Hc l G d call) {p : Program} {e : Env} {s : State} {mi : MethodId} {args : Array Value} {below : List Frame} {meth : Method} {c : Code} {h0 : ax_Hp} (B : ax_B G p s mi meth c "SchemaDesk" prog_1_method_4_code 5 (some (.boolean))) (E : c.exceptionTable.isEmpty = true) (Nm : meth.name = y_Desk_feed.name)   : ∀ (n : Nat) (x0 : Option Nat) (x1 : Int64) (x3 : Int32) (x4 : Int32) (h : ax_Hp), ax_W G p l e s mi args below meth c 5 (d + 1) h0 27 [(0, ax_A x0), (1, ax_L x1), (3, ax_I x3), (4, ax_I x4)] [] h (Desk_feed_lp27 call  n x0 x1 x3 x4 h)
  | 0, _, _, _, _, _ => ax_none
  | n + 1, x0, x1, x3, x4, h => Desk_feed_lb27 hcall B E Nm   (Desk_feed_lq27 hcall B E Nm   n) x0 x1 x3 x4 h
def Desk_feed_b (call : ax_Cf) (x0 : Option Nat) (x1 : Int64) (x3 : Int32) (h : ax_Hp) : ax_O :=
  if x3 < 1 then
    ax_rz 0 h
  else
    if 8 < x3 then
      ax_rz 0 h
    else
      (ax_gr h x0 8 2).bind fun v1 =>
      ax_on h v1 2 <| ax_ci (call 7 [ax_A v1] h) fun v3 h2 =>
      if x3 ≤ v3 then
        Desk_feed_lp27 call ax_fuel x0 x1 x3 0 h2
      else
        ax_rz 0 h2
set_option maxHeartbeats 4000000 in
set_option maxRecDepth 20000 in
theorem Desk_feed_t {l : Launch} {G : ax_G} {d : Nat} {call : ax_Cf} (hcall : ax_Hc l G d call) (x0 : Option Nat) (x1 : Int64) (x3 : Int32) (h : ax_Hp) {r : ax_Rs} {h' : ax_Hp} (ho : Desk_feed_b call x0 x1 x3 h = some (r, h')) : ax_C l G (d + 1) y_Desk_feed (.code y_Desk_feed prog_1_method_4_code 5 (some (.boolean))) [ax_A x0, ax_L x1, ax_I x3] h r h' := by
  refine ax_enter (by decide) (Nat.le_of_ble_eq_true rfl) ho (fun p e s mi args below meth c B E Nm => ?_)
  have B : ax_B G p s mi meth c "SchemaDesk" prog_1_method_4_code 5 (some (.boolean)) := B
  show ax_W G p l e s mi args below meth c 5 (d + 1) h 0 [(0, ax_A x0), (1, ax_L x1), (3, ax_I x3)] [] h (Desk_feed_b call x0 x1 x3 h)
  unfold Desk_feed_b
  refine ax_iload_n B 2 d_Desk_feed_0 rfl rfl ?_
  refine ax_iconst (v := 1) B d_Desk_feed_1 (by decide) ?_
  refine ax_icmp_lt B 22 d_Desk_feed_2 (by decide) ?_ ?_
  · refine ax_iconst (v := 0) B d_Desk_feed_22 (by decide) ?_
    exact ax_zreturn B d_Desk_feed_23
  · refine ax_iload_n B 2 d_Desk_feed_5 rfl rfl ?_
    refine ax_bipush (v := 8) B d_Desk_feed_6 (by decide) ?_
    refine ax_icmp_gt B 22 d_Desk_feed_8 (by decide) ?_ ?_
    · refine ax_iconst (v := 0) B d_Desk_feed_22 (by decide) ?_
      exact ax_zreturn B d_Desk_feed_23
    · refine ax_iload_n B 2 d_Desk_feed_11 rfl rfl ?_
      refine ax_aload_n B 0 d_Desk_feed_12 rfl rfl ?_
      refine ax_getfr B cl_Desk (by decide) fk_Desk_27 d_Desk_feed_13 (fun v1 => ?_)
      refine ax_callVi (av := []) (rest := [ax_I x3]) B E hm_Row_room cl_Row rfl wd_119 wd_120 lk_Desk_59 d_Desk_feed_16 rfl (Nat.le_of_ble_eq_true rfl) (fun _ _ hh => hcall 7 _ _ _ _ hh) (fun v3 h2 => ?_)
      refine ax_icmp_le B 24 d_Desk_feed_19 (by decide) ?_ ?_
      · refine ax_iconst (v := 0) B d_Desk_feed_24 (by decide) ?_
        refine ax_istore (tv2 := [(4, ax_I 0), (0, ax_A x0), (1, ax_L x1), (3, ax_I x3)]) B d_Desk_feed_25 (by decide) rfl ?_
        refine ax_sub (tv2 := [(0, ax_A x0), (1, ax_L x1), (3, ax_I x3), (4, ax_I 0)]) [1, 2, 3, 0] rfl ?_
        exact Desk_feed_lq27 hcall B E Nm ax_fuel x0 x1 x3 0 h2
      · refine ax_iconst (v := 0) B d_Desk_feed_22 (by decide) ?_
        exact ax_zreturn B d_Desk_feed_23

theorem d_Desk_drain_0 : decode prog_1_method_5_code 0 = .ok (.aload_n 0, 1) := by decide +kernel
theorem d_Desk_drain_1 : decode prog_1_method_5_code 1 = .ok (.getfield 27, 3) := by decide +kernel
theorem d_Desk_drain_4 : decode prog_1_method_5_code 4 = .ok (.invokevirtual 66, 3) := by decide +kernel
theorem d_Desk_drain_7 : decode prog_1_method_5_code 7 = .ok (.ireturn, 1) := by decide +kernel
def Desk_drain_b (call : ax_Cf) (x0 : Option Nat) (h : ax_Hp) : ax_O :=
  (ax_gr h x0 8 2).bind fun v1 =>
  ax_on h v1 2 <| ax_ci (call 10 [ax_A v1] h) fun v3 h2 =>
  ax_ri v3 h2
set_option maxHeartbeats 4000000 in
set_option maxRecDepth 20000 in
theorem Desk_drain_t {l : Launch} {G : ax_G} {d : Nat} {call : ax_Cf} (hcall : ax_Hc l G d call) (x0 : Option Nat) (h : ax_Hp) {r : ax_Rs} {h' : ax_Hp} (ho : Desk_drain_b call x0 h = some (r, h')) : ax_C l G (d + 1) y_Desk_drain (.code y_Desk_drain prog_1_method_5_code 1 (some (.int))) [ax_A x0] h r h' := by
  refine ax_enter (by decide) (Nat.le_of_ble_eq_true rfl) ho (fun p e s mi args below meth c B E Nm => ?_)
  have B : ax_B G p s mi meth c "SchemaDesk" prog_1_method_5_code 1 (some (.int)) := B
  show ax_W G p l e s mi args below meth c 1 (d + 1) h 0 [(0, ax_A x0)] [] h (Desk_drain_b call x0 h)
  unfold Desk_drain_b
  refine ax_aload_n B 0 d_Desk_drain_0 rfl rfl ?_
  refine ax_getfr B cl_Desk (by decide) fk_Desk_27 d_Desk_drain_1 (fun v1 => ?_)
  refine ax_callVi (av := []) (rest := []) B E hm_Row_clear cl_Row rfl wd_131 wd_132 lk_Desk_66 d_Desk_drain_4 rfl (Nat.le_of_ble_eq_true rfl) (fun _ _ hh => hcall 10 _ _ _ _ hh) (fun v3 h2 => ?_)
  exact ax_ireturn B d_Desk_drain_7

theorem d_Desk_place_0 : decode prog_1_method_14_code 0 = .ok (.aload_n 0, 1) := by decide +kernel
theorem d_Desk_place_1 : decode prog_1_method_14_code 1 = .ok (.getfield 47, 3) := by decide +kernel
theorem d_Desk_place_4 : decode prog_1_method_14_code 4 = .ok (.ireturn, 1) := by decide +kernel
def Desk_place_b (call : ax_Cf) (x0 : Option Nat) (h : ax_Hp) : ax_O :=
  (ax_gi h x0 8 7).bind fun v1 =>
  ax_ri v1 h
set_option maxHeartbeats 4000000 in
set_option maxRecDepth 20000 in
theorem Desk_place_t {l : Launch} {G : ax_G} {d : Nat} {call : ax_Cf} (hcall : ax_Hc l G d call) (x0 : Option Nat) (h : ax_Hp) {r : ax_Rs} {h' : ax_Hp} (ho : Desk_place_b call x0 h = some (r, h')) : ax_C l G (d + 1) y_Desk_place (.code y_Desk_place prog_1_method_14_code 1 (some (.int))) [ax_A x0] h r h' := by
  refine ax_enter (by decide) (Nat.le_of_ble_eq_true rfl) ho (fun p e s mi args below meth c B E Nm => ?_)
  have B : ax_B G p s mi meth c "SchemaDesk" prog_1_method_14_code 1 (some (.int)) := B
  show ax_W G p l e s mi args below meth c 1 (d + 1) h 0 [(0, ax_A x0)] [] h (Desk_place_b call x0 h)
  unfold Desk_place_b
  refine ax_aload_n B 0 d_Desk_place_0 rfl rfl ?_
  refine ax_getfi B cl_Desk (by decide) fk_Desk_47 d_Desk_place_1 (fun v1 => ?_)
  exact ax_ireturn B d_Desk_place_4

theorem d_Desk_mode_0 : decode prog_1_method_6_code 0 = .ok (.aload_n 0, 1) := by decide +kernel
theorem d_Desk_mode_1 : decode prog_1_method_6_code 1 = .ok (.iload_n 1, 1) := by decide +kernel
theorem d_Desk_mode_2 : decode prog_1_method_6_code 2 = .ok (.invokevirtual 69, 3) := by decide +kernel
theorem d_Desk_mode_5 : decode prog_1_method_6_code 5 = .ok (.astore_n 3, 1) := by decide +kernel
theorem d_Desk_mode_6 : decode prog_1_method_6_code 6 = .ok (.iload_n 2, 1) := by decide +kernel
theorem d_Desk_mode_7 : decode prog_1_method_6_code 7 = .ok (.ifCond .lt 9, 3) := by decide +kernel
theorem d_Desk_mode_10 : decode prog_1_method_6_code 10 = .ok (.iload_n 2, 1) := by decide +kernel
theorem d_Desk_mode_11 : decode prog_1_method_6_code 11 = .ok (.bipush 6, 2) := by decide +kernel
theorem d_Desk_mode_13 : decode prog_1_method_6_code 13 = .ok (.if_icmp .le 11, 3) := by decide +kernel
theorem d_Desk_mode_16 : decode prog_1_method_6_code 16 = .ok (.new 73, 3) := by decide +kernel
theorem d_Desk_mode_19 : decode prog_1_method_6_code 19 = .ok (.dup, 1) := by decide +kernel
theorem d_Desk_mode_20 : decode prog_1_method_6_code 20 = .ok (.invokespecial 75, 3) := by decide +kernel
theorem d_Desk_mode_23 : decode prog_1_method_6_code 23 = .ok (.athrow, 1) := by decide +kernel
theorem d_Desk_mode_24 : decode prog_1_method_6_code 24 = .ok (.aload_n 3, 1) := by decide +kernel
theorem d_Desk_mode_25 : decode prog_1_method_6_code 25 = .ok (.iload_n 2, 1) := by decide +kernel
theorem d_Desk_mode_26 : decode prog_1_method_6_code 26 = .ok (.invokevirtual 76, 3) := by decide +kernel
theorem d_Desk_mode_29 : decode prog_1_method_6_code 29 = .ok (.return_, 1) := by decide +kernel
def Desk_mode_b (call : ax_Cf) (x0 : Option Nat) (x1 : Int32) (x2 : Int32) (h : ax_Hp) : ax_O :=
  ax_on h x0 8 <| ax_cr (call 16 [ax_A x0, ax_I x1] h) fun v2 h1 =>
  if x2 < 0 then
    ax_th h1 0
  else
    if x2 ≤ 6 then
      ax_on h1 v2 6 <| ax_cv (call 17 [ax_A v2, ax_I x2] h1) fun h3 =>
      ax_rv h3
    else
      ax_th h1 0
set_option maxHeartbeats 4000000 in
set_option maxRecDepth 20000 in
theorem Desk_mode_t {l : Launch} {G : ax_G} {d : Nat} {call : ax_Cf} (hcall : ax_Hc l G d call) (hd8 : 8 ≤ d) (hl : l.stackTraces = false) (x0 : Option Nat) (x1 : Int32) (x2 : Int32) (h : ax_Hp) {r : ax_Rs} {h' : ax_Hp} (ho : Desk_mode_b call x0 x1 x2 h = some (r, h')) : ax_C l G (d + 1) y_Desk_mode (.code y_Desk_mode prog_1_method_6_code 4 none) [ax_A x0, ax_I x1, ax_I x2] h r h' := by
  refine ax_enter (by decide) (Nat.le_of_ble_eq_true rfl) ho (fun p e s mi args below meth c B E Nm => ?_)
  have B : ax_B G p s mi meth c "SchemaDesk" prog_1_method_6_code 4 none := B
  show ax_W G p l e s mi args below meth c 4 (d + 1) h 0 [(0, ax_A x0), (1, ax_I x1), (2, ax_I x2)] [] h (Desk_mode_b call x0 x1 x2 h)
  unfold Desk_mode_b
  refine ax_aload_n B 0 d_Desk_mode_0 rfl rfl ?_
  refine ax_iload_n B 1 d_Desk_mode_1 rfl rfl ?_
  refine ax_callVr (av := [ax_I x1]) (rest := []) B E hm_Desk_subjectAt cl_Desk rfl wd_156 wp_0 lk_Desk_69 d_Desk_mode_2 rfl (Nat.le_of_ble_eq_true rfl) (fun _ _ hh => hcall 16 _ _ _ _ hh) (fun v2 h1 => ?_)
  refine ax_astore_n (tv2 := [(3, ax_A v2), (0, ax_A x0), (1, ax_I x1), (2, ax_I x2)]) B d_Desk_mode_5 rfl (by decide) rfl ?_
  refine ax_iload_n B 3 d_Desk_mode_6 rfl rfl ?_
  refine ax_if_lt B 16 d_Desk_mode_7 (by decide) ?_ ?_
  · exact ax_throw B E hd8 hl th_Desk_73_75 d_Desk_mode_16 d_Desk_mode_19 d_Desk_mode_20 d_Desk_mode_23 (Nat.le_of_ble_eq_true rfl)
  · refine ax_iload_n B 3 d_Desk_mode_10 rfl rfl ?_
    refine ax_bipush (v := 6) B d_Desk_mode_11 (by decide) ?_
    refine ax_icmp_le B 24 d_Desk_mode_13 (by decide) ?_ ?_
    · refine ax_aload_n B 0 d_Desk_mode_24 rfl rfl ?_
      refine ax_iload_n B 3 d_Desk_mode_25 rfl rfl ?_
      refine ax_callVv (av := [ax_I x2]) (rest := []) B E hm_Subject_setMode cl_Subject rfl wd_222 wd_223 lk_Desk_76 d_Desk_mode_26 rfl (Nat.le_of_ble_eq_true rfl) (fun _ _ hh => hcall 17 _ _ _ _ hh) (fun h3 => ?_)
      exact ax_vreturn B d_Desk_mode_29
    · exact ax_throw B E hd8 hl th_Desk_73_75 d_Desk_mode_16 d_Desk_mode_19 d_Desk_mode_20 d_Desk_mode_23 (Nat.le_of_ble_eq_true rfl)

theorem d_Desk_subjectAt_0 : decode prog_1_method_16_code 0 = .ok (.iload_n 1, 1) := by decide +kernel
theorem d_Desk_subjectAt_1 : decode prog_1_method_16_code 1 = .ok (.ifCond .lt 17, 3) := by decide +kernel
theorem d_Desk_subjectAt_4 : decode prog_1_method_16_code 4 = .ok (.iload_n 1, 1) := by decide +kernel
theorem d_Desk_subjectAt_5 : decode prog_1_method_16_code 5 = .ok (.iconst 4, 1) := by decide +kernel
theorem d_Desk_subjectAt_6 : decode prog_1_method_16_code 6 = .ok (.if_icmp .ge 12, 3) := by decide +kernel
theorem d_Desk_subjectAt_9 : decode prog_1_method_16_code 9 = .ok (.aload_n 0, 1) := by decide +kernel
theorem d_Desk_subjectAt_10 : decode prog_1_method_16_code 10 = .ok (.getfield 38, 3) := by decide +kernel
theorem d_Desk_subjectAt_13 : decode prog_1_method_16_code 13 = .ok (.iload_n 1, 1) := by decide +kernel
theorem d_Desk_subjectAt_14 : decode prog_1_method_16_code 14 = .ok (.aaload, 1) := by decide +kernel
theorem d_Desk_subjectAt_15 : decode prog_1_method_16_code 15 = .ok (.goto 4, 3) := by decide +kernel
theorem d_Desk_subjectAt_18 : decode prog_1_method_16_code 18 = .ok (.aconst_null, 1) := by decide +kernel
theorem d_Desk_subjectAt_19 : decode prog_1_method_16_code 19 = .ok (.astore_n 2, 1) := by decide +kernel
theorem d_Desk_subjectAt_20 : decode prog_1_method_16_code 20 = .ok (.aload_n 2, 1) := by decide +kernel
theorem d_Desk_subjectAt_21 : decode prog_1_method_16_code 21 = .ok (.ifnonnull 11, 3) := by decide +kernel
theorem d_Desk_subjectAt_24 : decode prog_1_method_16_code 24 = .ok (.new 73, 3) := by decide +kernel
theorem d_Desk_subjectAt_27 : decode prog_1_method_16_code 27 = .ok (.dup, 1) := by decide +kernel
theorem d_Desk_subjectAt_28 : decode prog_1_method_16_code 28 = .ok (.invokespecial 75, 3) := by decide +kernel
theorem d_Desk_subjectAt_31 : decode prog_1_method_16_code 31 = .ok (.athrow, 1) := by decide +kernel
theorem d_Desk_subjectAt_32 : decode prog_1_method_16_code 32 = .ok (.aload_n 2, 1) := by decide +kernel
theorem d_Desk_subjectAt_33 : decode prog_1_method_16_code 33 = .ok (.areturn, 1) := by decide +kernel
def Desk_subjectAt_b (call : ax_Cf) (x0 : Option Nat) (x1 : Int32) (h : ax_Hp) : ax_O :=
  if x1 < 0 then
    if (none : Option Nat) = none then
      ax_th h 0
    else
      ax_rr none h
  else
    if 4 ≤ x1 then
      if (none : Option Nat) = none then
        ax_th h 0
      else
        ax_rr none h
    else
      (ax_gr h x0 8 3).bind fun v1 =>
      (ax_ldr h v1 5 x1).bind fun v2 =>
      if v2 = none then
        ax_th h 0
      else
        ax_rr v2 h
set_option maxHeartbeats 4000000 in
set_option maxRecDepth 20000 in
theorem Desk_subjectAt_t {l : Launch} {G : ax_G} {d : Nat} {call : ax_Cf} (hcall : ax_Hc l G d call) (hd8 : 8 ≤ d) (hl : l.stackTraces = false) (x0 : Option Nat) (x1 : Int32) (h : ax_Hp) {r : ax_Rs} {h' : ax_Hp} (ho : Desk_subjectAt_b call x0 x1 h = some (r, h')) : ax_C l G (d + 1) y_Desk_subjectAt (.code y_Desk_subjectAt prog_1_method_16_code 3 (some (.object "SchemaDesk$Subject"))) [ax_A x0, ax_I x1] h r h' := by
  refine ax_enter (by decide) (Nat.le_of_ble_eq_true rfl) ho (fun p e s mi args below meth c B E Nm => ?_)
  have B : ax_B G p s mi meth c "SchemaDesk" prog_1_method_16_code 3 (some (.object "SchemaDesk$Subject")) := B
  show ax_W G p l e s mi args below meth c 3 (d + 1) h 0 [(0, ax_A x0), (1, ax_I x1)] [] h (Desk_subjectAt_b call x0 x1 h)
  unfold Desk_subjectAt_b
  refine ax_iload_n B 1 d_Desk_subjectAt_0 rfl rfl ?_
  refine ax_if_lt B 18 d_Desk_subjectAt_1 (by decide) ?_ ?_
  · refine ax_null B d_Desk_subjectAt_18 ?_
    refine ax_astore_n (tv2 := [(2, ax_A none), (0, ax_A x0), (1, ax_I x1)]) B d_Desk_subjectAt_19 rfl (by decide) rfl ?_
    refine ax_aload_n B 0 d_Desk_subjectAt_20 rfl rfl ?_
    refine ax_ifnonnull B 32 d_Desk_subjectAt_21 (by decide) ?_ ?_
    · refine ax_aload_n B 0 d_Desk_subjectAt_32 rfl rfl ?_
      exact ax_areturn B rfl (Or.inl ⟨_, rfl⟩) d_Desk_subjectAt_33
    · exact ax_throw B E hd8 hl th_Desk_73_75 d_Desk_subjectAt_24 d_Desk_subjectAt_27 d_Desk_subjectAt_28 d_Desk_subjectAt_31 (Nat.le_of_ble_eq_true rfl)
  · refine ax_iload_n B 1 d_Desk_subjectAt_4 rfl rfl ?_
    refine ax_iconst (v := 4) B d_Desk_subjectAt_5 (by decide) ?_
    refine ax_icmp_ge B 18 d_Desk_subjectAt_6 (by decide) ?_ ?_
    · refine ax_null B d_Desk_subjectAt_18 ?_
      refine ax_astore_n (tv2 := [(2, ax_A none), (0, ax_A x0), (1, ax_I x1)]) B d_Desk_subjectAt_19 rfl (by decide) rfl ?_
      refine ax_aload_n B 0 d_Desk_subjectAt_20 rfl rfl ?_
      refine ax_ifnonnull B 32 d_Desk_subjectAt_21 (by decide) ?_ ?_
      · refine ax_aload_n B 0 d_Desk_subjectAt_32 rfl rfl ?_
        exact ax_areturn B rfl (Or.inl ⟨_, rfl⟩) d_Desk_subjectAt_33
      · exact ax_throw B E hd8 hl th_Desk_73_75 d_Desk_subjectAt_24 d_Desk_subjectAt_27 d_Desk_subjectAt_28 d_Desk_subjectAt_31 (Nat.le_of_ble_eq_true rfl)
    · refine ax_aload_n B 0 d_Desk_subjectAt_9 rfl rfl ?_
      refine ax_getfr B cl_Desk (by decide) fk_Desk_38 d_Desk_subjectAt_10 (fun v1 => ?_)
      refine ax_iload_n B 1 d_Desk_subjectAt_13 rfl rfl ?_
      refine ax_aald (kd := 5) B (by decide) rfl d_Desk_subjectAt_14 (fun v2 => ?_)
      refine ax_goto B 19 d_Desk_subjectAt_15 (by decide) ?_
      refine ax_astore_n (tv2 := [(2, ax_A v2), (0, ax_A x0), (1, ax_I x1)]) B d_Desk_subjectAt_19 rfl (by decide) rfl ?_
      refine ax_aload_n B 0 d_Desk_subjectAt_20 rfl rfl ?_
      refine ax_ifnonnull B 32 d_Desk_subjectAt_21 (by decide) ?_ ?_
      · refine ax_aload_n B 0 d_Desk_subjectAt_32 rfl rfl ?_
        exact ax_areturn B rfl (Or.inl ⟨_, rfl⟩) d_Desk_subjectAt_33
      · exact ax_throw B E hd8 hl th_Desk_73_75 d_Desk_subjectAt_24 d_Desk_subjectAt_27 d_Desk_subjectAt_28 d_Desk_subjectAt_31 (Nat.le_of_ble_eq_true rfl)

theorem d_Desk_register_0 : decode prog_1_method_7_code 0 = .ok (.aload_n 0, 1) := by decide +kernel
theorem d_Desk_register_1 : decode prog_1_method_7_code 1 = .ok (.iload_n 1, 1) := by decide +kernel
theorem d_Desk_register_2 : decode prog_1_method_7_code 2 = .ok (.invokevirtual 69, 3) := by decide +kernel
theorem d_Desk_register_5 : decode prog_1_method_7_code 5 = .ok (.astore_n 2, 1) := by decide +kernel
theorem d_Desk_register_6 : decode prog_1_method_7_code 6 = .ok (.new 80, 3) := by decide +kernel
theorem d_Desk_register_9 : decode prog_1_method_7_code 9 = .ok (.dup, 1) := by decide +kernel
theorem d_Desk_register_10 : decode prog_1_method_7_code 10 = .ok (.aload_n 0, 1) := by decide +kernel
theorem d_Desk_register_11 : decode prog_1_method_7_code 11 = .ok (.getfield 14, 3) := by decide +kernel
theorem d_Desk_register_14 : decode prog_1_method_7_code 14 = .ok (.invokespecial 82, 3) := by decide +kernel
theorem d_Desk_register_17 : decode prog_1_method_7_code 17 = .ok (.astore_n 3, 1) := by decide +kernel
theorem d_Desk_register_18 : decode prog_1_method_7_code 18 = .ok (.new 85, 3) := by decide +kernel
theorem d_Desk_register_21 : decode prog_1_method_7_code 21 = .ok (.dup, 1) := by decide +kernel
theorem d_Desk_register_22 : decode prog_1_method_7_code 22 = .ok (.aload_n 3, 1) := by decide +kernel
theorem d_Desk_register_23 : decode prog_1_method_7_code 23 = .ok (.aload_n 0, 1) := by decide +kernel
theorem d_Desk_register_24 : decode prog_1_method_7_code 24 = .ok (.getfield 23, 3) := by decide +kernel
theorem d_Desk_register_27 : decode prog_1_method_7_code 27 = .ok (.invokespecial 87, 3) := by decide +kernel
theorem d_Desk_register_30 : decode prog_1_method_7_code 30 = .ok (.invokevirtual 90, 3) := by decide +kernel
theorem d_Desk_register_33 : decode prog_1_method_7_code 33 = .ok (.ifCond .ne 19, 3) := by decide +kernel
theorem d_Desk_register_36 : decode prog_1_method_7_code 36 = .ok (.aload_n 0, 1) := by decide +kernel
theorem d_Desk_register_37 : decode prog_1_method_7_code 37 = .ok (.aload_n 3, 1) := by decide +kernel
theorem d_Desk_register_38 : decode prog_1_method_7_code 38 = .ok (.invokevirtual 94, 3) := by decide +kernel
theorem d_Desk_register_41 : decode prog_1_method_7_code 41 = .ok (.putfield 47, 3) := by decide +kernel
theorem d_Desk_register_44 : decode prog_1_method_7_code 44 = .ok (.new 73, 3) := by decide +kernel
theorem d_Desk_register_47 : decode prog_1_method_7_code 47 = .ok (.dup, 1) := by decide +kernel
theorem d_Desk_register_48 : decode prog_1_method_7_code 48 = .ok (.invokespecial 75, 3) := by decide +kernel
theorem d_Desk_register_51 : decode prog_1_method_7_code 51 = .ok (.athrow, 1) := by decide +kernel
theorem d_Desk_register_52 : decode prog_1_method_7_code 52 = .ok (.aload_n 2, 1) := by decide +kernel
theorem d_Desk_register_53 : decode prog_1_method_7_code 53 = .ok (.aload_n 0, 1) := by decide +kernel
theorem d_Desk_register_54 : decode prog_1_method_7_code 54 = .ok (.getfield 23, 3) := by decide +kernel
theorem d_Desk_register_57 : decode prog_1_method_7_code 57 = .ok (.invokevirtual 97, 3) := by decide +kernel
theorem d_Desk_register_60 : decode prog_1_method_7_code 60 = .ok (.istore 4, 2) := by decide +kernel
theorem d_Desk_register_62 : decode prog_1_method_7_code 62 = .ok (.iload 4, 2) := by decide +kernel
theorem d_Desk_register_64 : decode prog_1_method_7_code 64 = .ok (.iconst (-1), 1) := by decide +kernel
theorem d_Desk_register_65 : decode prog_1_method_7_code 65 = .ok (.if_icmp .ne 35, 3) := by decide +kernel
theorem d_Desk_register_68 : decode prog_1_method_7_code 68 = .ok (.aload_n 2, 1) := by decide +kernel
theorem d_Desk_register_69 : decode prog_1_method_7_code 69 = .ok (.aload_n 0, 1) := by decide +kernel
theorem d_Desk_register_70 : decode prog_1_method_7_code 70 = .ok (.getfield 23, 3) := by decide +kernel
theorem d_Desk_register_73 : decode prog_1_method_7_code 73 = .ok (.invokevirtual 101, 3) := by decide +kernel
theorem d_Desk_register_76 : decode prog_1_method_7_code 76 = .ok (.ifCond .ne 11, 3) := by decide +kernel
theorem d_Desk_register_79 : decode prog_1_method_7_code 79 = .ok (.new 105, 3) := by decide +kernel
theorem d_Desk_register_82 : decode prog_1_method_7_code 82 = .ok (.dup, 1) := by decide +kernel
theorem d_Desk_register_83 : decode prog_1_method_7_code 83 = .ok (.invokespecial 107, 3) := by decide +kernel
theorem d_Desk_register_86 : decode prog_1_method_7_code 86 = .ok (.athrow, 1) := by decide +kernel
theorem d_Desk_register_87 : decode prog_1_method_7_code 87 = .ok (.aload_n 2, 1) := by decide +kernel
theorem d_Desk_register_88 : decode prog_1_method_7_code 88 = .ok (.aload_n 0, 1) := by decide +kernel
theorem d_Desk_register_89 : decode prog_1_method_7_code 89 = .ok (.getfield 23, 3) := by decide +kernel
theorem d_Desk_register_92 : decode prog_1_method_7_code 92 = .ok (.invokevirtual 108, 3) := by decide +kernel
theorem d_Desk_register_95 : decode prog_1_method_7_code 95 = .ok (.invokevirtual 112, 3) := by decide +kernel
theorem d_Desk_register_98 : decode prog_1_method_7_code 98 = .ok (.istore 4, 2) := by decide +kernel
theorem d_Desk_register_100 : decode prog_1_method_7_code 100 = .ok (.aload_n 0, 1) := by decide +kernel
theorem d_Desk_register_101 : decode prog_1_method_7_code 101 = .ok (.getfield 14, 3) := by decide +kernel
theorem d_Desk_register_104 : decode prog_1_method_7_code 104 = .ok (.invokevirtual 66, 3) := by decide +kernel
theorem d_Desk_register_107 : decode prog_1_method_7_code 107 = .ok (.pop, 1) := by decide +kernel
theorem d_Desk_register_108 : decode prog_1_method_7_code 108 = .ok (.aload_n 0, 1) := by decide +kernel
theorem d_Desk_register_109 : decode prog_1_method_7_code 109 = .ok (.iconst (-1), 1) := by decide +kernel
theorem d_Desk_register_110 : decode prog_1_method_7_code 110 = .ok (.putfield 47, 3) := by decide +kernel
theorem d_Desk_register_113 : decode prog_1_method_7_code 113 = .ok (.iload 4, 2) := by decide +kernel
theorem d_Desk_register_115 : decode prog_1_method_7_code 115 = .ok (.ireturn, 1) := by decide +kernel
def Desk_register_b (call : ax_Cf) (x0 : Option Nat) (x1 : Int32) (h : ax_Hp) : ax_O :=
  ax_on h x0 8 <| ax_cr (call 16 [ax_A x0, ax_I x1] h) fun v2 h1 =>
  ax_nw (ax_new h1 0 [ax_A none, ax_I 0, ax_I 0]) fun a3 h4 =>
  (ax_gr h4 x0 8 0).bind fun v5 =>
  ax_cv (call 20 [ax_A (some a3), ax_A v5] h4) fun h6 =>
  ax_nw (ax_new h6 4 [ax_A none, ax_A none, ax_A none]) fun a8 h9 =>
  (ax_gr h9 x0 8 1).bind fun v10 =>
  ax_cv (call 21 [ax_A (some a8), ax_A (some a3), ax_A v10] h9) fun h11 =>
  ax_on h11 (some a8) 4 <| ax_ci (call 23 [ax_A (some a8)] h11) fun v14 h13 =>
  if v14 = 0 then
    ax_on h13 (some a3) 0 <| ax_ci (call 27 [ax_A (some a3)] h13) fun v35 h34 =>
    (ax_pf h34 x0 8 7 (ax_I v35)).bind fun h36 =>
    ax_th h36 0
  else
    (ax_gr h13 x0 8 1).bind fun v15 =>
    ax_on h13 v2 6 <| ax_ci (call 66 [ax_A v2, ax_A v15] h13) fun v17 h16 =>
    if v17 = (-1) then
      (ax_gr h16 x0 8 1).bind fun v22 =>
      ax_on h16 v2 6 <| ax_ci (call 69 [ax_A v2, ax_A v22] h16) fun v24 h23 =>
      if v24 = 0 then
        ax_th h23 1
      else
        (ax_gr h23 x0 8 1).bind fun v25 =>
        ax_on h23 v25 3 <| ax_cr (call 84 [ax_A v25] h23) fun v27 h26 =>
        ax_on h26 v2 6 <| ax_ci (call 88 [ax_A v2, ax_A v27] h26) fun v29 h28 =>
        (ax_gr h28 x0 8 0).bind fun v30 =>
        ax_on h28 v30 2 <| ax_ci (call 10 [ax_A v30] h28) fun v32 h31 =>
        (ax_pf h31 x0 8 7 (ax_I (-1))).bind fun h33 =>
        ax_ri v29 h33
    else
      (ax_gr h16 x0 8 0).bind fun v18 =>
      ax_on h16 v18 2 <| ax_ci (call 10 [ax_A v18] h16) fun v20 h19 =>
      (ax_pf h19 x0 8 7 (ax_I (-1))).bind fun h21 =>
      ax_ri v17 h21
set_option maxHeartbeats 4000000 in
set_option maxRecDepth 20000 in
theorem Desk_register_t {l : Launch} {G : ax_G} {d : Nat} {call : ax_Cf} (hcall : ax_Hc l G d call) (hd8 : 8 ≤ d) (hl : l.stackTraces = false) (x0 : Option Nat) (x1 : Int32) (h : ax_Hp) {r : ax_Rs} {h' : ax_Hp} (ho : Desk_register_b call x0 x1 h = some (r, h')) : ax_C l G (d + 1) y_Desk_register (.code y_Desk_register prog_1_method_7_code 5 (some (.int))) [ax_A x0, ax_I x1] h r h' := by
  refine ax_enter (by decide) (Nat.le_of_ble_eq_true rfl) ho (fun p e s mi args below meth c B E Nm => ?_)
  have B : ax_B G p s mi meth c "SchemaDesk" prog_1_method_7_code 5 (some (.int)) := B
  show ax_W G p l e s mi args below meth c 5 (d + 1) h 0 [(0, ax_A x0), (1, ax_I x1)] [] h (Desk_register_b call x0 x1 h)
  unfold Desk_register_b
  refine ax_aload_n B 0 d_Desk_register_0 rfl rfl ?_
  refine ax_iload_n B 1 d_Desk_register_1 rfl rfl ?_
  refine ax_callVr (av := [ax_I x1]) (rest := []) B E hm_Desk_subjectAt cl_Desk rfl wd_156 wp_0 lk_Desk_69 d_Desk_register_2 rfl (Nat.le_of_ble_eq_true rfl) (fun _ _ hh => hcall 16 _ _ _ _ hh) (fun v2 h1 => ?_)
  refine ax_astore_n (tv2 := [(2, ax_A v2), (0, ax_A x0), (1, ax_I x1)]) B d_Desk_register_5 rfl (by decide) rfl ?_
  refine ax_newo B cl_Cursor wd_233 wd_234 wd_10 rfl df_Cursor d_Desk_register_6 (fun a3 h4 => ?_)
  refine ax_dup B d_Desk_register_9 rfl ?_
  refine ax_aload_n B 1 d_Desk_register_10 rfl rfl ?_
  refine ax_getfr B cl_Desk (by decide) fk_Desk_14 d_Desk_register_11 (fun v5 => ?_)
  refine ax_callIv (av := [ax_A v5]) (rest := [ax_A (some a3)]) B E hm_Cursor_init rfl wd_236 lk_Desk_82 d_Desk_register_14 rfl (Nat.le_of_ble_eq_true rfl) (fun _ _ hh => hcall 20 _ _ _ _ hh) (fun h6 => ?_)
  refine ax_astore_n (tv2 := [(3, ax_A (some a3)), (2, ax_A v2), (0, ax_A x0), (1, ax_I x1)]) B d_Desk_register_17 rfl (by decide) rfl ?_
  refine ax_newo B cl_SchemaReader wd_249 wd_250 wd_11 rfl df_SchemaReader d_Desk_register_18 (fun a8 h9 => ?_)
  refine ax_dup B d_Desk_register_21 rfl ?_
  refine ax_aload_n B 0 d_Desk_register_22 rfl rfl ?_
  refine ax_aload_n B 2 d_Desk_register_23 rfl rfl ?_
  refine ax_getfr B cl_Desk (by decide) fk_Desk_23 d_Desk_register_24 (fun v10 => ?_)
  refine ax_callIv (av := [ax_A (some a3), ax_A v10]) (rest := [ax_A (some a8)]) B E hm_SchemaReader_init rfl wd_252 lk_Desk_87 d_Desk_register_27 rfl (Nat.le_of_ble_eq_true rfl) (fun _ _ hh => hcall 21 _ _ _ _ hh) (fun h11 => ?_)
  refine ax_callVi (av := []) (rest := []) B E hm_SchemaReader_readWhole cl_SchemaReader rfl wd_287 wd_288 lk_Desk_90 d_Desk_register_30 rfl (Nat.le_of_ble_eq_true rfl) (fun _ _ hh => hcall 23 _ _ _ _ hh) (fun v14 h13 => ?_)
  refine ax_if_ne B 52 d_Desk_register_33 (by decide) ?_ ?_
  · refine ax_aload_n B 1 d_Desk_register_52 rfl rfl ?_
    refine ax_aload_n B 2 d_Desk_register_53 rfl rfl ?_
    refine ax_getfr B cl_Desk (by decide) fk_Desk_23 d_Desk_register_54 (fun v15 => ?_)
    refine ax_callVi (av := [ax_A v15]) (rest := []) B E hm_Subject_numberOf cl_Subject rfl wd_467 wd_468 lk_Desk_97 d_Desk_register_57 rfl (Nat.le_of_ble_eq_true rfl) (fun _ _ hh => hcall 66 _ _ _ _ hh) (fun v17 h16 => ?_)
    refine ax_istore (tv2 := [(4, ax_I v17), (3, ax_A (some a3)), (2, ax_A v2), (0, ax_A x0), (1, ax_I x1)]) B d_Desk_register_60 (by decide) rfl ?_
    refine ax_iload B 0 d_Desk_register_62 rfl ?_
    refine ax_iconst (v := (-1)) B d_Desk_register_64 (by decide) ?_
    refine ax_icmp_ne B 100 d_Desk_register_65 (by decide) ?_ ?_
    · refine ax_aload_n B 3 d_Desk_register_100 rfl rfl ?_
      refine ax_getfr B cl_Desk (by decide) fk_Desk_14 d_Desk_register_101 (fun v18 => ?_)
      refine ax_callVi (av := []) (rest := []) B E hm_Row_clear cl_Row rfl wd_131 wd_132 lk_Desk_66 d_Desk_register_104 rfl (Nat.le_of_ble_eq_true rfl) (fun _ _ hh => hcall 10 _ _ _ _ hh) (fun v20 h19 => ?_)
      refine ax_pop B d_Desk_register_107 rfl ?_
      refine ax_aload_n B 3 d_Desk_register_108 rfl rfl ?_
      refine ax_iconst (v := (-1)) B d_Desk_register_109 (by decide) ?_
      refine ax_putf (v := ax_I (-1)) B cl_Desk (by decide) fk_Desk_47 (Or.inl rfl) (fun _ => rfl) (fun _ => rfl) d_Desk_register_110 (fun h21 => ?_)
      refine ax_iload B 0 d_Desk_register_113 rfl ?_
      exact ax_ireturn B d_Desk_register_115
    · refine ax_aload_n B 2 d_Desk_register_68 rfl rfl ?_
      refine ax_aload_n B 3 d_Desk_register_69 rfl rfl ?_
      refine ax_getfr B cl_Desk (by decide) fk_Desk_23 d_Desk_register_70 (fun v22 => ?_)
      refine ax_callVi (av := [ax_A v22]) (rest := []) B E hm_Subject_admits cl_Subject rfl wd_480 wd_481 lk_Desk_101 d_Desk_register_73 rfl (Nat.le_of_ble_eq_true rfl) (fun _ _ hh => hcall 69 _ _ _ _ hh) (fun v24 h23 => ?_)
      refine ax_if_ne B 87 d_Desk_register_76 (by decide) ?_ ?_
      · refine ax_aload_n B 2 d_Desk_register_87 rfl rfl ?_
        refine ax_aload_n B 3 d_Desk_register_88 rfl rfl ?_
        refine ax_getfr B cl_Desk (by decide) fk_Desk_23 d_Desk_register_89 (fun v25 => ?_)
        refine ax_callVr (av := []) (rest := [ax_A v2]) B E hm_Schema_copy cl_Schema rfl wd_556 wd_557 lk_Desk_108 d_Desk_register_92 rfl (Nat.le_of_ble_eq_true rfl) (fun _ _ hh => hcall 84 _ _ _ _ hh) (fun v27 h26 => ?_)
        refine ax_callVi (av := [ax_A v27]) (rest := []) B E hm_Subject_add cl_Subject rfl wd_586 wd_587 lk_Desk_112 d_Desk_register_95 rfl (Nat.le_of_ble_eq_true rfl) (fun _ _ hh => hcall 88 _ _ _ _ hh) (fun v29 h28 => ?_)
        refine ax_istore (tv2 := [(4, ax_I v29), (3, ax_A (some a3)), (2, ax_A v2), (0, ax_A x0), (1, ax_I x1)]) B d_Desk_register_98 (by decide) rfl ?_
        refine ax_aload_n B 3 d_Desk_register_100 rfl rfl ?_
        refine ax_getfr B cl_Desk (by decide) fk_Desk_14 d_Desk_register_101 (fun v30 => ?_)
        refine ax_callVi (av := []) (rest := []) B E hm_Row_clear cl_Row rfl wd_131 wd_132 lk_Desk_66 d_Desk_register_104 rfl (Nat.le_of_ble_eq_true rfl) (fun _ _ hh => hcall 10 _ _ _ _ hh) (fun v32 h31 => ?_)
        refine ax_pop B d_Desk_register_107 rfl ?_
        refine ax_aload_n B 3 d_Desk_register_108 rfl rfl ?_
        refine ax_iconst (v := (-1)) B d_Desk_register_109 (by decide) ?_
        refine ax_putf (v := ax_I (-1)) B cl_Desk (by decide) fk_Desk_47 (Or.inl rfl) (fun _ => rfl) (fun _ => rfl) d_Desk_register_110 (fun h33 => ?_)
        refine ax_iload B 0 d_Desk_register_113 rfl ?_
        exact ax_ireturn B d_Desk_register_115
      · exact ax_throw B E hd8 hl th_Desk_105_107 d_Desk_register_79 d_Desk_register_82 d_Desk_register_83 d_Desk_register_86 (Nat.le_of_ble_eq_true rfl)
  · refine ax_aload_n B 2 d_Desk_register_36 rfl rfl ?_
    refine ax_aload_n B 0 d_Desk_register_37 rfl rfl ?_
    refine ax_callVi (av := []) (rest := [ax_A x0]) B E hm_Cursor_at cl_Cursor rfl wd_302 wd_303 lk_Desk_94 d_Desk_register_38 rfl (Nat.le_of_ble_eq_true rfl) (fun _ _ hh => hcall 27 _ _ _ _ hh) (fun v35 h34 => ?_)
    refine ax_putf (v := ax_I v35) B cl_Desk (by decide) fk_Desk_47 (Or.inl rfl) (fun _ => rfl) (fun _ => rfl) d_Desk_register_41 (fun h36 => ?_)
    exact ax_throw B E hd8 hl th_Desk_73_75 d_Desk_register_44 d_Desk_register_47 d_Desk_register_48 d_Desk_register_51 (Nat.le_of_ble_eq_true rfl)

theorem d_Desk_smallLetterBit_0 : decode prog_1_method_23_code 0 = .ok (.iload_n 0, 1) := by decide +kernel
theorem d_Desk_smallLetterBit_1 : decode prog_1_method_23_code 1 = .ok (.invokestatic 175, 3) := by decide +kernel
theorem d_Desk_smallLetterBit_4 : decode prog_1_method_23_code 4 = .ok (.ifCond .eq 12, 3) := by decide +kernel
theorem d_Desk_smallLetterBit_7 : decode prog_1_method_23_code 7 = .ok (.iconst 1, 1) := by decide +kernel
theorem d_Desk_smallLetterBit_8 : decode prog_1_method_23_code 8 = .ok (.iload_n 0, 1) := by decide +kernel
theorem d_Desk_smallLetterBit_9 : decode prog_1_method_23_code 9 = .ok (.bipush 97, 2) := by decide +kernel
theorem d_Desk_smallLetterBit_11 : decode prog_1_method_23_code 11 = .ok (.isub, 1) := by decide +kernel
theorem d_Desk_smallLetterBit_12 : decode prog_1_method_23_code 12 = .ok (.ishl, 1) := by decide +kernel
theorem d_Desk_smallLetterBit_13 : decode prog_1_method_23_code 13 = .ok (.goto 4, 3) := by decide +kernel
theorem d_Desk_smallLetterBit_16 : decode prog_1_method_23_code 16 = .ok (.iconst 0, 1) := by decide +kernel
theorem d_Desk_smallLetterBit_17 : decode prog_1_method_23_code 17 = .ok (.ireturn, 1) := by decide +kernel
def Desk_smallLetterBit_b (call : ax_Cf) (x0 : Int32) (h : ax_Hp) : ax_O :=
  ax_ci (call 33 [ax_I x0] h) fun v2 h1 =>
  if v2 = 0 then
    ax_ri 0 h1
  else
    ax_ri (1 <<< ((x0 - 97) &&& 31)) h1
set_option maxHeartbeats 4000000 in
set_option maxRecDepth 20000 in
theorem Desk_smallLetterBit_t {l : Launch} {G : ax_G} {d : Nat} {call : ax_Cf} (hcall : ax_Hc l G d call) (x0 : Int32) (h : ax_Hp) {r : ax_Rs} {h' : ax_Hp} (ho : Desk_smallLetterBit_b call x0 h = some (r, h')) : ax_C l G (d + 1) y_Desk_smallLetterBit (.code y_Desk_smallLetterBit prog_1_method_23_code 1 (some (.int))) [ax_I x0] h r h' := by
  refine ax_enter (by decide) (Nat.le_of_ble_eq_true rfl) ho (fun p e s mi args below meth c B E Nm => ?_)
  have B : ax_B G p s mi meth c "SchemaDesk" prog_1_method_23_code 1 (some (.int)) := B
  show ax_W G p l e s mi args below meth c 1 (d + 1) h 0 [(0, ax_I x0)] [] h (Desk_smallLetterBit_b call x0 h)
  unfold Desk_smallLetterBit_b
  refine ax_iload_n B 0 d_Desk_smallLetterBit_0 rfl rfl ?_
  refine ax_callSi (av := [ax_I x0]) (rest := []) B E hm_Desk_isSmallLetter wd_325 lk_Desk_175 d_Desk_smallLetterBit_1 rfl (Nat.le_of_ble_eq_true rfl) (fun _ _ hh => hcall 33 _ _ _ _ hh) (fun v2 h1 => ?_)
  refine ax_if_eq B 16 d_Desk_smallLetterBit_4 (by decide) ?_ ?_
  · refine ax_iconst (v := 0) B d_Desk_smallLetterBit_16 (by decide) ?_
    exact ax_ireturn B d_Desk_smallLetterBit_17
  · refine ax_iconst (v := 1) B d_Desk_smallLetterBit_7 (by decide) ?_
    refine ax_iload_n B 0 d_Desk_smallLetterBit_8 rfl rfl ?_
    refine ax_bipush (v := 97) B d_Desk_smallLetterBit_9 (by decide) ?_
    refine ax_isub B d_Desk_smallLetterBit_11 ?_
    refine ax_ishl B d_Desk_smallLetterBit_12 ?_
    refine ax_goto B 17 d_Desk_smallLetterBit_13 (by decide) ?_
    exact ax_ireturn B d_Desk_smallLetterBit_17

theorem d_Desk_isSmallLetter_0 : decode prog_1_method_21_code 0 = .ok (.iload_n 0, 1) := by decide +kernel
theorem d_Desk_isSmallLetter_1 : decode prog_1_method_21_code 1 = .ok (.bipush 97, 2) := by decide +kernel
theorem d_Desk_isSmallLetter_3 : decode prog_1_method_21_code 3 = .ok (.if_icmp .lt 13, 3) := by decide +kernel
theorem d_Desk_isSmallLetter_6 : decode prog_1_method_21_code 6 = .ok (.iload_n 0, 1) := by decide +kernel
theorem d_Desk_isSmallLetter_7 : decode prog_1_method_21_code 7 = .ok (.bipush 122, 2) := by decide +kernel
theorem d_Desk_isSmallLetter_9 : decode prog_1_method_21_code 9 = .ok (.if_icmp .gt 7, 3) := by decide +kernel
theorem d_Desk_isSmallLetter_12 : decode prog_1_method_21_code 12 = .ok (.iconst 1, 1) := by decide +kernel
theorem d_Desk_isSmallLetter_13 : decode prog_1_method_21_code 13 = .ok (.goto 4, 3) := by decide +kernel
theorem d_Desk_isSmallLetter_16 : decode prog_1_method_21_code 16 = .ok (.iconst 0, 1) := by decide +kernel
theorem d_Desk_isSmallLetter_17 : decode prog_1_method_21_code 17 = .ok (.ireturn, 1) := by decide +kernel
def Desk_isSmallLetter_b (call : ax_Cf) (x0 : Int32) (h : ax_Hp) : ax_O :=
  if x0 < 97 then
    ax_rz 0 h
  else
    if 122 < x0 then
      ax_rz 0 h
    else
      ax_rz 1 h
set_option maxHeartbeats 4000000 in
set_option maxRecDepth 20000 in
theorem Desk_isSmallLetter_t {l : Launch} {G : ax_G} {d : Nat} {call : ax_Cf} (hcall : ax_Hc l G d call) (x0 : Int32) (h : ax_Hp) {r : ax_Rs} {h' : ax_Hp} (ho : Desk_isSmallLetter_b call x0 h = some (r, h')) : ax_C l G (d + 1) y_Desk_isSmallLetter (.code y_Desk_isSmallLetter prog_1_method_21_code 1 (some (.boolean))) [ax_I x0] h r h' := by
  refine ax_enter (by decide) (Nat.le_of_ble_eq_true rfl) ho (fun p e s mi args below meth c B E Nm => ?_)
  have B : ax_B G p s mi meth c "SchemaDesk" prog_1_method_21_code 1 (some (.boolean)) := B
  show ax_W G p l e s mi args below meth c 1 (d + 1) h 0 [(0, ax_I x0)] [] h (Desk_isSmallLetter_b call x0 h)
  unfold Desk_isSmallLetter_b
  refine ax_iload_n B 0 d_Desk_isSmallLetter_0 rfl rfl ?_
  refine ax_bipush (v := 97) B d_Desk_isSmallLetter_1 (by decide) ?_
  refine ax_icmp_lt B 16 d_Desk_isSmallLetter_3 (by decide) ?_ ?_
  · refine ax_iconst (v := 0) B d_Desk_isSmallLetter_16 (by decide) ?_
    exact ax_zreturn B d_Desk_isSmallLetter_17
  · refine ax_iload_n B 0 d_Desk_isSmallLetter_6 rfl rfl ?_
    refine ax_bipush (v := 122) B d_Desk_isSmallLetter_7 (by decide) ?_
    refine ax_icmp_gt B 16 d_Desk_isSmallLetter_9 (by decide) ?_ ?_
    · refine ax_iconst (v := 0) B d_Desk_isSmallLetter_16 (by decide) ?_
      exact ax_zreturn B d_Desk_isSmallLetter_17
    · refine ax_iconst (v := 1) B d_Desk_isSmallLetter_12 (by decide) ?_
      refine ax_goto B 17 d_Desk_isSmallLetter_13 (by decide) ?_
      exact ax_zreturn B d_Desk_isSmallLetter_17

theorem d_Desk_capitalBit_0 : decode prog_1_method_24_code 0 = .ok (.iload_n 0, 1) := by decide +kernel
theorem d_Desk_capitalBit_1 : decode prog_1_method_24_code 1 = .ok (.bipush 65, 2) := by decide +kernel
theorem d_Desk_capitalBit_3 : decode prog_1_method_24_code 3 = .ok (.if_icmp .lt 18, 3) := by decide +kernel
theorem d_Desk_capitalBit_6 : decode prog_1_method_24_code 6 = .ok (.iload_n 0, 1) := by decide +kernel
theorem d_Desk_capitalBit_7 : decode prog_1_method_24_code 7 = .ok (.bipush 90, 2) := by decide +kernel
theorem d_Desk_capitalBit_9 : decode prog_1_method_24_code 9 = .ok (.if_icmp .gt 12, 3) := by decide +kernel
theorem d_Desk_capitalBit_12 : decode prog_1_method_24_code 12 = .ok (.iconst 1, 1) := by decide +kernel
theorem d_Desk_capitalBit_13 : decode prog_1_method_24_code 13 = .ok (.iload_n 0, 1) := by decide +kernel
theorem d_Desk_capitalBit_14 : decode prog_1_method_24_code 14 = .ok (.bipush 65, 2) := by decide +kernel
theorem d_Desk_capitalBit_16 : decode prog_1_method_24_code 16 = .ok (.isub, 1) := by decide +kernel
theorem d_Desk_capitalBit_17 : decode prog_1_method_24_code 17 = .ok (.ishl, 1) := by decide +kernel
theorem d_Desk_capitalBit_18 : decode prog_1_method_24_code 18 = .ok (.goto 4, 3) := by decide +kernel
theorem d_Desk_capitalBit_21 : decode prog_1_method_24_code 21 = .ok (.iconst 0, 1) := by decide +kernel
theorem d_Desk_capitalBit_22 : decode prog_1_method_24_code 22 = .ok (.ireturn, 1) := by decide +kernel
def Desk_capitalBit_b (call : ax_Cf) (x0 : Int32) (h : ax_Hp) : ax_O :=
  if x0 < 65 then
    ax_ri 0 h
  else
    if 90 < x0 then
      ax_ri 0 h
    else
      ax_ri (1 <<< ((x0 - 65) &&& 31)) h
set_option maxHeartbeats 4000000 in
set_option maxRecDepth 20000 in
theorem Desk_capitalBit_t {l : Launch} {G : ax_G} {d : Nat} {call : ax_Cf} (hcall : ax_Hc l G d call) (x0 : Int32) (h : ax_Hp) {r : ax_Rs} {h' : ax_Hp} (ho : Desk_capitalBit_b call x0 h = some (r, h')) : ax_C l G (d + 1) y_Desk_capitalBit (.code y_Desk_capitalBit prog_1_method_24_code 1 (some (.int))) [ax_I x0] h r h' := by
  refine ax_enter (by decide) (Nat.le_of_ble_eq_true rfl) ho (fun p e s mi args below meth c B E Nm => ?_)
  have B : ax_B G p s mi meth c "SchemaDesk" prog_1_method_24_code 1 (some (.int)) := B
  show ax_W G p l e s mi args below meth c 1 (d + 1) h 0 [(0, ax_I x0)] [] h (Desk_capitalBit_b call x0 h)
  unfold Desk_capitalBit_b
  refine ax_iload_n B 0 d_Desk_capitalBit_0 rfl rfl ?_
  refine ax_bipush (v := 65) B d_Desk_capitalBit_1 (by decide) ?_
  refine ax_icmp_lt B 21 d_Desk_capitalBit_3 (by decide) ?_ ?_
  · refine ax_iconst (v := 0) B d_Desk_capitalBit_21 (by decide) ?_
    exact ax_ireturn B d_Desk_capitalBit_22
  · refine ax_iload_n B 0 d_Desk_capitalBit_6 rfl rfl ?_
    refine ax_bipush (v := 90) B d_Desk_capitalBit_7 (by decide) ?_
    refine ax_icmp_gt B 21 d_Desk_capitalBit_9 (by decide) ?_ ?_
    · refine ax_iconst (v := 0) B d_Desk_capitalBit_21 (by decide) ?_
      exact ax_ireturn B d_Desk_capitalBit_22
    · refine ax_iconst (v := 1) B d_Desk_capitalBit_12 (by decide) ?_
      refine ax_iload_n B 0 d_Desk_capitalBit_13 rfl rfl ?_
      refine ax_bipush (v := 65) B d_Desk_capitalBit_14 (by decide) ?_
      refine ax_isub B d_Desk_capitalBit_16 ?_
      refine ax_ishl B d_Desk_capitalBit_17 ?_
      refine ax_goto B 22 d_Desk_capitalBit_18 (by decide) ?_
      exact ax_ireturn B d_Desk_capitalBit_22

theorem d_Desk_isDigit_0 : decode prog_1_method_22_code 0 = .ok (.iload_n 0, 1) := by decide +kernel
theorem d_Desk_isDigit_1 : decode prog_1_method_22_code 1 = .ok (.bipush 48, 2) := by decide +kernel
theorem d_Desk_isDigit_3 : decode prog_1_method_22_code 3 = .ok (.if_icmp .lt 13, 3) := by decide +kernel
theorem d_Desk_isDigit_6 : decode prog_1_method_22_code 6 = .ok (.iload_n 0, 1) := by decide +kernel
theorem d_Desk_isDigit_7 : decode prog_1_method_22_code 7 = .ok (.bipush 57, 2) := by decide +kernel
theorem d_Desk_isDigit_9 : decode prog_1_method_22_code 9 = .ok (.if_icmp .gt 7, 3) := by decide +kernel
theorem d_Desk_isDigit_12 : decode prog_1_method_22_code 12 = .ok (.iconst 1, 1) := by decide +kernel
theorem d_Desk_isDigit_13 : decode prog_1_method_22_code 13 = .ok (.goto 4, 3) := by decide +kernel
theorem d_Desk_isDigit_16 : decode prog_1_method_22_code 16 = .ok (.iconst 0, 1) := by decide +kernel
theorem d_Desk_isDigit_17 : decode prog_1_method_22_code 17 = .ok (.ireturn, 1) := by decide +kernel
def Desk_isDigit_b (call : ax_Cf) (x0 : Int32) (h : ax_Hp) : ax_O :=
  if x0 < 48 then
    ax_rz 0 h
  else
    if 57 < x0 then
      ax_rz 0 h
    else
      ax_rz 1 h
set_option maxHeartbeats 4000000 in
set_option maxRecDepth 20000 in
theorem Desk_isDigit_t {l : Launch} {G : ax_G} {d : Nat} {call : ax_Cf} (hcall : ax_Hc l G d call) (x0 : Int32) (h : ax_Hp) {r : ax_Rs} {h' : ax_Hp} (ho : Desk_isDigit_b call x0 h = some (r, h')) : ax_C l G (d + 1) y_Desk_isDigit (.code y_Desk_isDigit prog_1_method_22_code 1 (some (.boolean))) [ax_I x0] h r h' := by
  refine ax_enter (by decide) (Nat.le_of_ble_eq_true rfl) ho (fun p e s mi args below meth c B E Nm => ?_)
  have B : ax_B G p s mi meth c "SchemaDesk" prog_1_method_22_code 1 (some (.boolean)) := B
  show ax_W G p l e s mi args below meth c 1 (d + 1) h 0 [(0, ax_I x0)] [] h (Desk_isDigit_b call x0 h)
  unfold Desk_isDigit_b
  refine ax_iload_n B 0 d_Desk_isDigit_0 rfl rfl ?_
  refine ax_bipush (v := 48) B d_Desk_isDigit_1 (by decide) ?_
  refine ax_icmp_lt B 16 d_Desk_isDigit_3 (by decide) ?_ ?_
  · refine ax_iconst (v := 0) B d_Desk_isDigit_16 (by decide) ?_
    exact ax_zreturn B d_Desk_isDigit_17
  · refine ax_iload_n B 0 d_Desk_isDigit_6 rfl rfl ?_
    refine ax_bipush (v := 57) B d_Desk_isDigit_7 (by decide) ?_
    refine ax_icmp_gt B 16 d_Desk_isDigit_9 (by decide) ?_ ?_
    · refine ax_iconst (v := 0) B d_Desk_isDigit_16 (by decide) ?_
      exact ax_zreturn B d_Desk_isDigit_17
    · refine ax_iconst (v := 1) B d_Desk_isDigit_12 (by decide) ?_
      refine ax_goto B 17 d_Desk_isDigit_13 (by decide) ?_
      exact ax_zreturn B d_Desk_isDigit_17

theorem d_Desk_versions_0 : decode prog_1_method_8_code 0 = .ok (.aload_n 0, 1) := by decide +kernel
theorem d_Desk_versions_1 : decode prog_1_method_8_code 1 = .ok (.iload_n 1, 1) := by decide +kernel
theorem d_Desk_versions_2 : decode prog_1_method_8_code 2 = .ok (.invokevirtual 69, 3) := by decide +kernel
theorem d_Desk_versions_5 : decode prog_1_method_8_code 5 = .ok (.invokevirtual 114, 3) := by decide +kernel
theorem d_Desk_versions_8 : decode prog_1_method_8_code 8 = .ok (.ireturn, 1) := by decide +kernel
def Desk_versions_b (call : ax_Cf) (x0 : Option Nat) (x1 : Int32) (h : ax_Hp) : ax_O :=
  ax_on h x0 8 <| ax_cr (call 16 [ax_A x0, ax_I x1] h) fun v2 h1 =>
  ax_on h1 v2 6 <| ax_ci (call 91 [ax_A v2] h1) fun v4 h3 =>
  ax_ri v4 h3
set_option maxHeartbeats 4000000 in
set_option maxRecDepth 20000 in
theorem Desk_versions_t {l : Launch} {G : ax_G} {d : Nat} {call : ax_Cf} (hcall : ax_Hc l G d call) (x0 : Option Nat) (x1 : Int32) (h : ax_Hp) {r : ax_Rs} {h' : ax_Hp} (ho : Desk_versions_b call x0 x1 h = some (r, h')) : ax_C l G (d + 1) y_Desk_versions (.code y_Desk_versions prog_1_method_8_code 2 (some (.int))) [ax_A x0, ax_I x1] h r h' := by
  refine ax_enter (by decide) (Nat.le_of_ble_eq_true rfl) ho (fun p e s mi args below meth c B E Nm => ?_)
  have B : ax_B G p s mi meth c "SchemaDesk" prog_1_method_8_code 2 (some (.int)) := B
  show ax_W G p l e s mi args below meth c 2 (d + 1) h 0 [(0, ax_A x0), (1, ax_I x1)] [] h (Desk_versions_b call x0 x1 h)
  unfold Desk_versions_b
  refine ax_aload_n B 0 d_Desk_versions_0 rfl rfl ?_
  refine ax_iload_n B 1 d_Desk_versions_1 rfl rfl ?_
  refine ax_callVr (av := [ax_I x1]) (rest := []) B E hm_Desk_subjectAt cl_Desk rfl wd_156 wp_0 lk_Desk_69 d_Desk_versions_2 rfl (Nat.le_of_ble_eq_true rfl) (fun _ _ hh => hcall 16 _ _ _ _ hh) (fun v2 h1 => ?_)
  refine ax_callVi (av := []) (rest := []) B E hm_Subject_count cl_Subject rfl wd_597 wd_598 lk_Desk_114 d_Desk_versions_5 rfl (Nat.le_of_ble_eq_true rfl) (fun _ _ hh => hcall 91 _ _ _ _ hh) (fun v4 h3 => ?_)
  exact ax_ireturn B d_Desk_versions_8

theorem d_Desk_reads_0 : decode prog_1_method_9_code 0 = .ok (.aload_n 0, 1) := by decide +kernel
theorem d_Desk_reads_1 : decode prog_1_method_9_code 1 = .ok (.iload_n 1, 1) := by decide +kernel
theorem d_Desk_reads_2 : decode prog_1_method_9_code 2 = .ok (.iload_n 2, 1) := by decide +kernel
theorem d_Desk_reads_3 : decode prog_1_method_9_code 3 = .ok (.invokevirtual 117, 3) := by decide +kernel
theorem d_Desk_reads_6 : decode prog_1_method_9_code 6 = .ok (.astore 4, 2) := by decide +kernel
theorem d_Desk_reads_8 : decode prog_1_method_9_code 8 = .ok (.aload_n 0, 1) := by decide +kernel
theorem d_Desk_reads_9 : decode prog_1_method_9_code 9 = .ok (.iload_n 1, 1) := by decide +kernel
theorem d_Desk_reads_10 : decode prog_1_method_9_code 10 = .ok (.iload_n 3, 1) := by decide +kernel
theorem d_Desk_reads_11 : decode prog_1_method_9_code 11 = .ok (.invokevirtual 117, 3) := by decide +kernel
theorem d_Desk_reads_14 : decode prog_1_method_9_code 14 = .ok (.astore 5, 2) := by decide +kernel
theorem d_Desk_reads_16 : decode prog_1_method_9_code 16 = .ok (.aload 4, 2) := by decide +kernel
theorem d_Desk_reads_18 : decode prog_1_method_9_code 18 = .ok (.aload 5, 2) := by decide +kernel
theorem d_Desk_reads_20 : decode prog_1_method_9_code 20 = .ok (.invokestatic 121, 3) := by decide +kernel
theorem d_Desk_reads_23 : decode prog_1_method_9_code 23 = .ok (.ireturn, 1) := by decide +kernel
def Desk_reads_b (call : ax_Cf) (x0 : Option Nat) (x1 : Int32) (x2 : Int32) (x3 : Int32) (h : ax_Hp) : ax_O :=
  ax_on h x0 8 <| ax_cr (call 94 [ax_A x0, ax_I x1, ax_I x2] h) fun v2 h1 =>
  ax_on h1 x0 8 <| ax_cr (call 94 [ax_A x0, ax_I x1, ax_I x3] h1) fun v4 h3 =>
  ax_ci (call 71 [ax_A v2, ax_A v4] h3) fun v6 h5 =>
  ax_rz v6 h5
set_option maxHeartbeats 4000000 in
set_option maxRecDepth 20000 in
theorem Desk_reads_t {l : Launch} {G : ax_G} {d : Nat} {call : ax_Cf} (hcall : ax_Hc l G d call) (x0 : Option Nat) (x1 : Int32) (x2 : Int32) (x3 : Int32) (h : ax_Hp) {r : ax_Rs} {h' : ax_Hp} (ho : Desk_reads_b call x0 x1 x2 x3 h = some (r, h')) : ax_C l G (d + 1) y_Desk_reads (.code y_Desk_reads prog_1_method_9_code 6 (some (.boolean))) [ax_A x0, ax_I x1, ax_I x2, ax_I x3] h r h' := by
  refine ax_enter (by decide) (Nat.le_of_ble_eq_true rfl) ho (fun p e s mi args below meth c B E Nm => ?_)
  have B : ax_B G p s mi meth c "SchemaDesk" prog_1_method_9_code 6 (some (.boolean)) := B
  show ax_W G p l e s mi args below meth c 6 (d + 1) h 0 [(0, ax_A x0), (1, ax_I x1), (2, ax_I x2), (3, ax_I x3)] [] h (Desk_reads_b call x0 x1 x2 x3 h)
  unfold Desk_reads_b
  refine ax_aload_n B 0 d_Desk_reads_0 rfl rfl ?_
  refine ax_iload_n B 1 d_Desk_reads_1 rfl rfl ?_
  refine ax_iload_n B 2 d_Desk_reads_2 rfl rfl ?_
  refine ax_callVr (av := [ax_I x1, ax_I x2]) (rest := []) B E hm_Desk_versionAt cl_Desk rfl wd_609 wp_20 lk_Desk_117 d_Desk_reads_3 rfl (Nat.le_of_ble_eq_true rfl) (fun _ _ hh => hcall 94 _ _ _ _ hh) (fun v2 h1 => ?_)
  refine ax_astore (tv2 := [(4, ax_A v2), (0, ax_A x0), (1, ax_I x1), (2, ax_I x2), (3, ax_I x3)]) B d_Desk_reads_6 (by decide) rfl ?_
  refine ax_aload_n B 1 d_Desk_reads_8 rfl rfl ?_
  refine ax_iload_n B 2 d_Desk_reads_9 rfl rfl ?_
  refine ax_iload_n B 4 d_Desk_reads_10 rfl rfl ?_
  refine ax_callVr (av := [ax_I x1, ax_I x3]) (rest := []) B E hm_Desk_versionAt cl_Desk rfl wd_609 wp_20 lk_Desk_117 d_Desk_reads_11 rfl (Nat.le_of_ble_eq_true rfl) (fun _ _ hh => hcall 94 _ _ _ _ hh) (fun v4 h3 => ?_)
  refine ax_astore (tv2 := [(5, ax_A v4), (4, ax_A v2), (0, ax_A x0), (1, ax_I x1), (2, ax_I x2), (3, ax_I x3)]) B d_Desk_reads_14 (by decide) rfl ?_
  refine ax_aload B 1 d_Desk_reads_16 rfl ?_
  refine ax_aload B 0 d_Desk_reads_18 rfl ?_
  refine ax_callSi (av := [ax_A v2, ax_A v4]) (rest := []) B E hm_Compatibility_canRead wd_488 lk_Desk_121 d_Desk_reads_20 rfl (Nat.le_of_ble_eq_true rfl) (fun _ _ hh => hcall 71 _ _ _ _ hh) (fun v6 h5 => ?_)
  exact ax_zreturn B d_Desk_reads_23

theorem d_Desk_versionAt_0 : decode prog_1_method_17_code 0 = .ok (.aload_n 0, 1) := by decide +kernel
theorem d_Desk_versionAt_1 : decode prog_1_method_17_code 1 = .ok (.iload_n 1, 1) := by decide +kernel
theorem d_Desk_versionAt_2 : decode prog_1_method_17_code 2 = .ok (.invokevirtual 69, 3) := by decide +kernel
theorem d_Desk_versionAt_5 : decode prog_1_method_17_code 5 = .ok (.iload_n 2, 1) := by decide +kernel
theorem d_Desk_versionAt_6 : decode prog_1_method_17_code 6 = .ok (.invokevirtual 171, 3) := by decide +kernel
theorem d_Desk_versionAt_9 : decode prog_1_method_17_code 9 = .ok (.astore_n 3, 1) := by decide +kernel
theorem d_Desk_versionAt_10 : decode prog_1_method_17_code 10 = .ok (.aload_n 3, 1) := by decide +kernel
theorem d_Desk_versionAt_11 : decode prog_1_method_17_code 11 = .ok (.ifnonnull 11, 3) := by decide +kernel
theorem d_Desk_versionAt_14 : decode prog_1_method_17_code 14 = .ok (.new 73, 3) := by decide +kernel
theorem d_Desk_versionAt_17 : decode prog_1_method_17_code 17 = .ok (.dup, 1) := by decide +kernel
theorem d_Desk_versionAt_18 : decode prog_1_method_17_code 18 = .ok (.invokespecial 75, 3) := by decide +kernel
theorem d_Desk_versionAt_21 : decode prog_1_method_17_code 21 = .ok (.athrow, 1) := by decide +kernel
theorem d_Desk_versionAt_22 : decode prog_1_method_17_code 22 = .ok (.aload_n 3, 1) := by decide +kernel
theorem d_Desk_versionAt_23 : decode prog_1_method_17_code 23 = .ok (.areturn, 1) := by decide +kernel
def Desk_versionAt_b (call : ax_Cf) (x0 : Option Nat) (x1 : Int32) (x2 : Int32) (h : ax_Hp) : ax_O :=
  ax_on h x0 8 <| ax_cr (call 16 [ax_A x0, ax_I x1] h) fun v2 h1 =>
  ax_on h1 v2 6 <| ax_cr (call 95 [ax_A v2, ax_I x2] h1) fun v4 h3 =>
  if v4 = none then
    ax_th h3 0
  else
    ax_rr v4 h3
set_option maxHeartbeats 4000000 in
set_option maxRecDepth 20000 in
theorem Desk_versionAt_t {l : Launch} {G : ax_G} {d : Nat} {call : ax_Cf} (hcall : ax_Hc l G d call) (hd8 : 8 ≤ d) (hl : l.stackTraces = false) (x0 : Option Nat) (x1 : Int32) (x2 : Int32) (h : ax_Hp) {r : ax_Rs} {h' : ax_Hp} (ho : Desk_versionAt_b call x0 x1 x2 h = some (r, h')) : ax_C l G (d + 1) y_Desk_versionAt (.code y_Desk_versionAt prog_1_method_17_code 4 (some (.object "SchemaDesk$Schema"))) [ax_A x0, ax_I x1, ax_I x2] h r h' := by
  refine ax_enter (by decide) (Nat.le_of_ble_eq_true rfl) ho (fun p e s mi args below meth c B E Nm => ?_)
  have B : ax_B G p s mi meth c "SchemaDesk" prog_1_method_17_code 4 (some (.object "SchemaDesk$Schema")) := B
  show ax_W G p l e s mi args below meth c 4 (d + 1) h 0 [(0, ax_A x0), (1, ax_I x1), (2, ax_I x2)] [] h (Desk_versionAt_b call x0 x1 x2 h)
  unfold Desk_versionAt_b
  refine ax_aload_n B 0 d_Desk_versionAt_0 rfl rfl ?_
  refine ax_iload_n B 1 d_Desk_versionAt_1 rfl rfl ?_
  refine ax_callVr (av := [ax_I x1]) (rest := []) B E hm_Desk_subjectAt cl_Desk rfl wd_156 wp_0 lk_Desk_69 d_Desk_versionAt_2 rfl (Nat.le_of_ble_eq_true rfl) (fun _ _ hh => hcall 16 _ _ _ _ hh) (fun v2 h1 => ?_)
  refine ax_iload_n B 2 d_Desk_versionAt_5 rfl rfl ?_
  refine ax_callVr (av := [ax_I x2]) (rest := []) B E hm_Subject_version cl_Subject rfl wd_612 wd_613 lk_Desk_171 d_Desk_versionAt_6 rfl (Nat.le_of_ble_eq_true rfl) (fun _ _ hh => hcall 95 _ _ _ _ hh) (fun v4 h3 => ?_)
  refine ax_astore_n (tv2 := [(3, ax_A v4), (0, ax_A x0), (1, ax_I x1), (2, ax_I x2)]) B d_Desk_versionAt_9 rfl (by decide) rfl ?_
  refine ax_aload_n B 0 d_Desk_versionAt_10 rfl rfl ?_
  refine ax_ifnonnull B 22 d_Desk_versionAt_11 (by decide) ?_ ?_
  · refine ax_aload_n B 0 d_Desk_versionAt_22 rfl rfl ?_
    exact ax_areturn B rfl (Or.inl ⟨_, rfl⟩) d_Desk_versionAt_23
  · exact ax_throw B E hd8 hl th_Desk_73_75 d_Desk_versionAt_14 d_Desk_versionAt_17 d_Desk_versionAt_18 d_Desk_versionAt_21 (Nat.le_of_ble_eq_true rfl)

theorem d_Desk_print_0 : decode prog_1_method_10_code 0 = .ok (.aload_n 0, 1) := by decide +kernel
theorem d_Desk_print_1 : decode prog_1_method_10_code 1 = .ok (.iload_n 1, 1) := by decide +kernel
theorem d_Desk_print_2 : decode prog_1_method_10_code 2 = .ok (.iload_n 2, 1) := by decide +kernel
theorem d_Desk_print_3 : decode prog_1_method_10_code 3 = .ok (.invokevirtual 117, 3) := by decide +kernel
theorem d_Desk_print_6 : decode prog_1_method_10_code 6 = .ok (.astore 4, 2) := by decide +kernel
theorem d_Desk_print_8 : decode prog_1_method_10_code 8 = .ok (.aload_n 0, 1) := by decide +kernel
theorem d_Desk_print_9 : decode prog_1_method_10_code 9 = .ok (.getfield 33, 3) := by decide +kernel
theorem d_Desk_print_12 : decode prog_1_method_10_code 12 = .ok (.invokevirtual 66, 3) := by decide +kernel
theorem d_Desk_print_15 : decode prog_1_method_10_code 15 = .ok (.pop, 1) := by decide +kernel
theorem d_Desk_print_16 : decode prog_1_method_10_code 16 = .ok (.iload_n 3, 1) := by decide +kernel
theorem d_Desk_print_17 : decode prog_1_method_10_code 17 = .ok (.ifCond .eq 15, 3) := by decide +kernel
theorem d_Desk_print_20 : decode prog_1_method_10_code 20 = .ok (.aload 4, 2) := by decide +kernel
theorem d_Desk_print_22 : decode prog_1_method_10_code 22 = .ok (.aload_n 0, 1) := by decide +kernel
theorem d_Desk_print_23 : decode prog_1_method_10_code 23 = .ok (.getfield 33, 3) := by decide +kernel
theorem d_Desk_print_26 : decode prog_1_method_10_code 26 = .ok (.invokevirtual 127, 3) := by decide +kernel
theorem d_Desk_print_29 : decode prog_1_method_10_code 29 = .ok (.goto 12, 3) := by decide +kernel
theorem d_Desk_print_32 : decode prog_1_method_10_code 32 = .ok (.aload 4, 2) := by decide +kernel
theorem d_Desk_print_34 : decode prog_1_method_10_code 34 = .ok (.aload_n 0, 1) := by decide +kernel
theorem d_Desk_print_35 : decode prog_1_method_10_code 35 = .ok (.getfield 33, 3) := by decide +kernel
theorem d_Desk_print_38 : decode prog_1_method_10_code 38 = .ok (.invokevirtual 130, 3) := by decide +kernel
theorem d_Desk_print_41 : decode prog_1_method_10_code 41 = .ok (.aload_n 0, 1) := by decide +kernel
theorem d_Desk_print_42 : decode prog_1_method_10_code 42 = .ok (.invokevirtual 133, 3) := by decide +kernel
theorem d_Desk_print_45 : decode prog_1_method_10_code 45 = .ok (.ireturn, 1) := by decide +kernel
def Desk_print_b (call : ax_Cf) (x0 : Option Nat) (x1 : Int32) (x2 : Int32) (x3 : Int32) (h : ax_Hp) : ax_O :=
  ax_on h x0 8 <| ax_cr (call 94 [ax_A x0, ax_I x1, ax_I x2] h) fun v2 h1 =>
  (ax_gr h1 x0 8 6).bind fun v3 =>
  ax_on h1 v3 2 <| ax_ci (call 10 [ax_A v3] h1) fun v5 h4 =>
  if x3 = 0 then
    (ax_gr h4 x0 8 6).bind fun v6 =>
    ax_on h4 v2 3 <| ax_cv (call 99 [ax_A v2, ax_A v6] h4) fun h7 =>
    ax_on h7 x0 8 <| ax_ci (call 100 [ax_A x0] h7) fun v10 h9 =>
    ax_ri v10 h9
  else
    (ax_gr h4 x0 8 6).bind fun v11 =>
    ax_on h4 v2 3 <| ax_cv (call 98 [ax_A v2, ax_A v11] h4) fun h12 =>
    ax_on h12 x0 8 <| ax_ci (call 100 [ax_A x0] h12) fun v15 h14 =>
    ax_ri v15 h14
set_option maxHeartbeats 4000000 in
set_option maxRecDepth 20000 in
theorem Desk_print_t {l : Launch} {G : ax_G} {d : Nat} {call : ax_Cf} (hcall : ax_Hc l G d call) (x0 : Option Nat) (x1 : Int32) (x2 : Int32) (x3 : Int32) (h : ax_Hp) {r : ax_Rs} {h' : ax_Hp} (ho : Desk_print_b call x0 x1 x2 x3 h = some (r, h')) : ax_C l G (d + 1) y_Desk_print (.code y_Desk_print prog_1_method_10_code 5 (some (.int))) [ax_A x0, ax_I x1, ax_I x2, ax_I x3] h r h' := by
  refine ax_enter (by decide) (Nat.le_of_ble_eq_true rfl) ho (fun p e s mi args below meth c B E Nm => ?_)
  have B : ax_B G p s mi meth c "SchemaDesk" prog_1_method_10_code 5 (some (.int)) := B
  show ax_W G p l e s mi args below meth c 5 (d + 1) h 0 [(0, ax_A x0), (1, ax_I x1), (2, ax_I x2), (3, ax_I x3)] [] h (Desk_print_b call x0 x1 x2 x3 h)
  unfold Desk_print_b
  refine ax_aload_n B 0 d_Desk_print_0 rfl rfl ?_
  refine ax_iload_n B 1 d_Desk_print_1 rfl rfl ?_
  refine ax_iload_n B 2 d_Desk_print_2 rfl rfl ?_
  refine ax_callVr (av := [ax_I x1, ax_I x2]) (rest := []) B E hm_Desk_versionAt cl_Desk rfl wd_609 wp_20 lk_Desk_117 d_Desk_print_3 rfl (Nat.le_of_ble_eq_true rfl) (fun _ _ hh => hcall 94 _ _ _ _ hh) (fun v2 h1 => ?_)
  refine ax_astore (tv2 := [(4, ax_A v2), (0, ax_A x0), (1, ax_I x1), (2, ax_I x2), (3, ax_I x3)]) B d_Desk_print_6 (by decide) rfl ?_
  refine ax_aload_n B 1 d_Desk_print_8 rfl rfl ?_
  refine ax_getfr B cl_Desk (by decide) fk_Desk_33 d_Desk_print_9 (fun v3 => ?_)
  refine ax_callVi (av := []) (rest := []) B E hm_Row_clear cl_Row rfl wd_131 wd_132 lk_Desk_66 d_Desk_print_12 rfl (Nat.le_of_ble_eq_true rfl) (fun _ _ hh => hcall 10 _ _ _ _ hh) (fun v5 h4 => ?_)
  refine ax_pop B d_Desk_print_15 rfl ?_
  refine ax_iload_n B 4 d_Desk_print_16 rfl rfl ?_
  refine ax_if_eq B 32 d_Desk_print_17 (by decide) ?_ ?_
  · refine ax_aload B 0 d_Desk_print_32 rfl ?_
    refine ax_aload_n B 1 d_Desk_print_34 rfl rfl ?_
    refine ax_getfr B cl_Desk (by decide) fk_Desk_33 d_Desk_print_35 (fun v6 => ?_)
    refine ax_callVv (av := [ax_A v6]) (rest := []) B E hm_Schema_copyTo cl_Schema rfl wd_629 wd_630 lk_Desk_130 d_Desk_print_38 rfl (Nat.le_of_ble_eq_true rfl) (fun _ _ hh => hcall 99 _ _ _ _ hh) (fun h7 => ?_)
    refine ax_aload_n B 1 d_Desk_print_41 rfl rfl ?_
    refine ax_callVi (av := []) (rest := []) B E hm_Desk_showDraft cl_Desk rfl wd_634 wp_21 lk_Desk_133 d_Desk_print_42 rfl (Nat.le_of_ble_eq_true rfl) (fun _ _ hh => hcall 100 _ _ _ _ hh) (fun v10 h9 => ?_)
    exact ax_ireturn B d_Desk_print_45
  · refine ax_aload B 0 d_Desk_print_20 rfl ?_
    refine ax_aload_n B 1 d_Desk_print_22 rfl rfl ?_
    refine ax_getfr B cl_Desk (by decide) fk_Desk_33 d_Desk_print_23 (fun v11 => ?_)
    refine ax_callVv (av := [ax_A v11]) (rest := []) B E hm_Schema_copyBareTo cl_Schema rfl wd_624 wd_625 lk_Desk_127 d_Desk_print_26 rfl (Nat.le_of_ble_eq_true rfl) (fun _ _ hh => hcall 98 _ _ _ _ hh) (fun h12 => ?_)
    refine ax_goto B 41 d_Desk_print_29 (by decide) ?_
    refine ax_aload_n B 1 d_Desk_print_41 rfl rfl ?_
    refine ax_callVi (av := []) (rest := []) B E hm_Desk_showDraft cl_Desk rfl wd_634 wp_21 lk_Desk_133 d_Desk_print_42 rfl (Nat.le_of_ble_eq_true rfl) (fun _ _ hh => hcall 100 _ _ _ _ hh) (fun v15 h14 => ?_)
    exact ax_ireturn B d_Desk_print_45

theorem d_Desk_showDraft_0 : decode prog_1_method_18_code 0 = .ok (.aload_n 0, 1) := by decide +kernel
theorem d_Desk_showDraft_1 : decode prog_1_method_18_code 1 = .ok (.getfield 30, 3) := by decide +kernel
theorem d_Desk_showDraft_4 : decode prog_1_method_18_code 4 = .ok (.astore_n 1, 1) := by decide +kernel
theorem d_Desk_showDraft_5 : decode prog_1_method_18_code 5 = .ok (.aload_n 0, 1) := by decide +kernel
theorem d_Desk_showDraft_6 : decode prog_1_method_18_code 6 = .ok (.aload_n 0, 1) := by decide +kernel
theorem d_Desk_showDraft_7 : decode prog_1_method_18_code 7 = .ok (.getfield 33, 3) := by decide +kernel
theorem d_Desk_showDraft_10 : decode prog_1_method_18_code 10 = .ok (.putfield 30, 3) := by decide +kernel
theorem d_Desk_showDraft_13 : decode prog_1_method_18_code 13 = .ok (.aload_n 0, 1) := by decide +kernel
theorem d_Desk_showDraft_14 : decode prog_1_method_18_code 14 = .ok (.aload_n 1, 1) := by decide +kernel
theorem d_Desk_showDraft_15 : decode prog_1_method_18_code 15 = .ok (.putfield 33, 3) := by decide +kernel
theorem d_Desk_showDraft_18 : decode prog_1_method_18_code 18 = .ok (.aload_n 0, 1) := by decide +kernel
theorem d_Desk_showDraft_19 : decode prog_1_method_18_code 19 = .ok (.getfield 30, 3) := by decide +kernel
theorem d_Desk_showDraft_22 : decode prog_1_method_18_code 22 = .ok (.invokevirtual 138, 3) := by decide +kernel
theorem d_Desk_showDraft_25 : decode prog_1_method_18_code 25 = .ok (.ireturn, 1) := by decide +kernel
def Desk_showDraft_b (call : ax_Cf) (x0 : Option Nat) (h : ax_Hp) : ax_O :=
  (ax_gr h x0 8 5).bind fun v1 =>
  (ax_gr h x0 8 6).bind fun v2 =>
  (ax_pf h x0 8 5 (ax_A v2)).bind fun h3 =>
  (ax_pf h3 x0 8 6 (ax_A v1)).bind fun h4 =>
  (ax_gr h4 x0 8 5).bind fun v5 =>
  ax_on h4 v5 2 <| ax_ci (call 51 [ax_A v5] h4) fun v7 h6 =>
  ax_ri v7 h6
set_option maxHeartbeats 4000000 in
set_option maxRecDepth 20000 in
theorem Desk_showDraft_t {l : Launch} {G : ax_G} {d : Nat} {call : ax_Cf} (hcall : ax_Hc l G d call) (x0 : Option Nat) (h : ax_Hp) {r : ax_Rs} {h' : ax_Hp} (ho : Desk_showDraft_b call x0 h = some (r, h')) : ax_C l G (d + 1) y_Desk_showDraft (.code y_Desk_showDraft prog_1_method_18_code 2 (some (.int))) [ax_A x0] h r h' := by
  refine ax_enter (by decide) (Nat.le_of_ble_eq_true rfl) ho (fun p e s mi args below meth c B E Nm => ?_)
  have B : ax_B G p s mi meth c "SchemaDesk" prog_1_method_18_code 2 (some (.int)) := B
  show ax_W G p l e s mi args below meth c 2 (d + 1) h 0 [(0, ax_A x0)] [] h (Desk_showDraft_b call x0 h)
  unfold Desk_showDraft_b
  refine ax_aload_n B 0 d_Desk_showDraft_0 rfl rfl ?_
  refine ax_getfr B cl_Desk (by decide) fk_Desk_30 d_Desk_showDraft_1 (fun v1 => ?_)
  refine ax_astore_n (tv2 := [(1, ax_A v1), (0, ax_A x0)]) B d_Desk_showDraft_4 rfl (by decide) rfl ?_
  refine ax_aload_n B 1 d_Desk_showDraft_5 rfl rfl ?_
  refine ax_aload_n B 1 d_Desk_showDraft_6 rfl rfl ?_
  refine ax_getfr B cl_Desk (by decide) fk_Desk_33 d_Desk_showDraft_7 (fun v2 => ?_)
  refine ax_putf (v := ax_A v2) B cl_Desk (by decide) fk_Desk_30 (Or.inl rfl) (fun _ => ax_narO) (fun _ => ax_fitO) d_Desk_showDraft_10 (fun h3 => ?_)
  refine ax_aload_n B 1 d_Desk_showDraft_13 rfl rfl ?_
  refine ax_aload_n B 0 d_Desk_showDraft_14 rfl rfl ?_
  refine ax_putf (v := ax_A v1) B cl_Desk (by decide) fk_Desk_33 (Or.inl rfl) (fun _ => ax_narO) (fun _ => ax_fitO) d_Desk_showDraft_15 (fun h4 => ?_)
  refine ax_aload_n B 1 d_Desk_showDraft_18 rfl rfl ?_
  refine ax_getfr B cl_Desk (by decide) fk_Desk_30 d_Desk_showDraft_19 (fun v5 => ?_)
  refine ax_callVi (av := []) (rest := []) B E hm_Row_size cl_Row rfl wd_401 wd_402 lk_Desk_138 d_Desk_showDraft_22 rfl (Nat.le_of_ble_eq_true rfl) (fun _ _ hh => hcall 51 _ _ _ _ hh) (fun v7 h6 => ?_)
  exact ax_ireturn B d_Desk_showDraft_25

theorem d_Desk_fingerprint_0 : decode prog_1_method_11_code 0 = .ok (.aload_n 0, 1) := by decide +kernel
theorem d_Desk_fingerprint_1 : decode prog_1_method_11_code 1 = .ok (.iload_n 1, 1) := by decide +kernel
theorem d_Desk_fingerprint_2 : decode prog_1_method_11_code 2 = .ok (.iload_n 2, 1) := by decide +kernel
theorem d_Desk_fingerprint_3 : decode prog_1_method_11_code 3 = .ok (.invokevirtual 117, 3) := by decide +kernel
theorem d_Desk_fingerprint_6 : decode prog_1_method_11_code 6 = .ok (.astore_n 3, 1) := by decide +kernel
theorem d_Desk_fingerprint_7 : decode prog_1_method_11_code 7 = .ok (.aload_n 0, 1) := by decide +kernel
theorem d_Desk_fingerprint_8 : decode prog_1_method_11_code 8 = .ok (.getfield 33, 3) := by decide +kernel
theorem d_Desk_fingerprint_11 : decode prog_1_method_11_code 11 = .ok (.invokevirtual 66, 3) := by decide +kernel
theorem d_Desk_fingerprint_14 : decode prog_1_method_11_code 14 = .ok (.pop, 1) := by decide +kernel
theorem d_Desk_fingerprint_15 : decode prog_1_method_11_code 15 = .ok (.aload_n 3, 1) := by decide +kernel
theorem d_Desk_fingerprint_16 : decode prog_1_method_11_code 16 = .ok (.aload_n 0, 1) := by decide +kernel
theorem d_Desk_fingerprint_17 : decode prog_1_method_11_code 17 = .ok (.getfield 33, 3) := by decide +kernel
theorem d_Desk_fingerprint_20 : decode prog_1_method_11_code 20 = .ok (.invokevirtual 127, 3) := by decide +kernel
theorem d_Desk_fingerprint_23 : decode prog_1_method_11_code 23 = .ok (.ldc2_w 136, 3) := by decide +kernel
theorem d_Desk_fingerprint_26 : decode prog_1_method_11_code 26 = .ok (.lstore 4, 2) := by decide +kernel
theorem d_Desk_fingerprint_28 : decode prog_1_method_11_code 28 = .ok (.iconst 0, 1) := by decide +kernel
theorem d_Desk_fingerprint_29 : decode prog_1_method_11_code 29 = .ok (.istore 6, 2) := by decide +kernel
theorem d_Desk_fingerprint_31 : decode prog_1_method_11_code 31 = .ok (.iload 6, 2) := by decide +kernel
theorem d_Desk_fingerprint_33 : decode prog_1_method_11_code 33 = .ok (.aload_n 0, 1) := by decide +kernel
theorem d_Desk_fingerprint_34 : decode prog_1_method_11_code 34 = .ok (.getfield 33, 3) := by decide +kernel
theorem d_Desk_fingerprint_37 : decode prog_1_method_11_code 37 = .ok (.invokevirtual 138, 3) := by decide +kernel
theorem d_Desk_fingerprint_40 : decode prog_1_method_11_code 40 = .ok (.if_icmp .ge 37, 3) := by decide +kernel
theorem d_Desk_fingerprint_43 : decode prog_1_method_11_code 43 = .ok (.lload 4, 2) := by decide +kernel
theorem d_Desk_fingerprint_45 : decode prog_1_method_11_code 45 = .ok (.bipush 8, 2) := by decide +kernel
theorem d_Desk_fingerprint_47 : decode prog_1_method_11_code 47 = .ok (.lushr, 1) := by decide +kernel
theorem d_Desk_fingerprint_48 : decode prog_1_method_11_code 48 = .ok (.lload 4, 2) := by decide +kernel
theorem d_Desk_fingerprint_50 : decode prog_1_method_11_code 50 = .ok (.aload_n 0, 1) := by decide +kernel
theorem d_Desk_fingerprint_51 : decode prog_1_method_11_code 51 = .ok (.getfield 33, 3) := by decide +kernel
theorem d_Desk_fingerprint_54 : decode prog_1_method_11_code 54 = .ok (.iload 6, 2) := by decide +kernel
theorem d_Desk_fingerprint_56 : decode prog_1_method_11_code 56 = .ok (.invokevirtual 141, 3) := by decide +kernel
theorem d_Desk_fingerprint_59 : decode prog_1_method_11_code 59 = .ok (.i2l, 1) := by decide +kernel
theorem d_Desk_fingerprint_60 : decode prog_1_method_11_code 60 = .ok (.lxor, 1) := by decide +kernel
theorem d_Desk_fingerprint_61 : decode prog_1_method_11_code 61 = .ok (.ldc2_w 144, 3) := by decide +kernel
theorem d_Desk_fingerprint_64 : decode prog_1_method_11_code 64 = .ok (.land, 1) := by decide +kernel
theorem d_Desk_fingerprint_65 : decode prog_1_method_11_code 65 = .ok (.invokestatic 146, 3) := by decide +kernel
theorem d_Desk_fingerprint_68 : decode prog_1_method_11_code 68 = .ok (.lxor, 1) := by decide +kernel
theorem d_Desk_fingerprint_69 : decode prog_1_method_11_code 69 = .ok (.lstore 4, 2) := by decide +kernel
theorem d_Desk_fingerprint_71 : decode prog_1_method_11_code 71 = .ok (.iinc 6 1, 3) := by decide +kernel
theorem d_Desk_fingerprint_74 : decode prog_1_method_11_code 74 = .ok (.goto (-43), 3) := by decide +kernel
theorem d_Desk_fingerprint_77 : decode prog_1_method_11_code 77 = .ok (.lload 4, 2) := by decide +kernel
theorem d_Desk_fingerprint_79 : decode prog_1_method_11_code 79 = .ok (.lreturn, 1) := by decide +kernel
def Desk_fingerprint_bd31 (call : ax_Cf)  (k31 : Option Nat → Int64 → Int32 → ax_Hp → ax_O) (x0 : Option Nat) (x4 : Int64) (x6 : Int32) (h : ax_Hp) : ax_O :=
  (ax_gr h x0 8 6).bind fun v9 =>
  ax_on h v9 2 <| ax_ci (call 51 [ax_A v9] h) fun v11 h10 =>
  if v11 ≤ x6 then
    ax_rl x4 h10
  else
    (ax_gr h10 x0 8 6).bind fun v12 =>
    ax_on h10 v12 2 <| ax_ci (call 45 [ax_A v12, ax_I x6] h10) fun v14 h13 =>
    ax_cl (call 103 [ax_L ((x4 ^^^ (v14.toInt64)) &&& 255)] h13) fun v16 h15 =>
    k31 x0 (((x4.toUInt64 >>> ((8 : Int32).toInt64.toUInt64 &&& Int64.toUInt64 63)).toInt64) ^^^ v16) (x6 + 1) h15
def Desk_fingerprint_lp31 (call : ax_Cf)  : Nat → Option Nat → Int64 → Int32 → ax_Hp → ax_O
  | 0 => fun _ _ _ _ => none
  | n + 1 => Desk_fingerprint_bd31 call  (Desk_fingerprint_lp31 call  n)
set_option maxHeartbeats 4000000 in
set_option maxRecDepth 20000 in
theorem Desk_fingerprint_lb31 {l : Launch} {G : ax_G} {d : Nat} {call : ax_Cf} (hcall : ax_Hc l G d call) {p : Program} {e : Env} {s : State} {mi : MethodId} {args : Array Value} {below : List Frame} {meth : Method} {c : Code} {h0 : ax_Hp} (B : ax_B G p s mi meth c "SchemaDesk" prog_1_method_11_code 7 (some (.long))) (E : c.exceptionTable.isEmpty = true) (Nm : meth.name = y_Desk_fingerprint.name)   {k31 : Option Nat → Int64 → Int32 → ax_Hp → ax_O} (hk31 : ∀ (x0 : Option Nat) (x4 : Int64) (x6 : Int32) (h : ax_Hp), ax_W G p l e s mi args below meth c 7 (d + 1) h0 31 [(0, ax_A x0), (4, ax_L x4), (6, ax_I x6)] [] h (k31 x0 x4 x6 h)) (x0 : Option Nat) (x4 : Int64) (x6 : Int32) (h : ax_Hp) : ax_W G p l e s mi args below meth c 7 (d + 1) h0 31 [(0, ax_A x0), (4, ax_L x4), (6, ax_I x6)] [] h (Desk_fingerprint_bd31 call  k31 x0 x4 x6 h) := by
  unfold Desk_fingerprint_bd31
  refine ax_iload B 2 d_Desk_fingerprint_31 rfl ?_
  refine ax_aload_n B 0 d_Desk_fingerprint_33 rfl rfl ?_
  refine ax_getfr B cl_Desk (by decide) fk_Desk_33 d_Desk_fingerprint_34 (fun v9 => ?_)
  refine ax_callVi (av := []) (rest := [ax_I x6]) B E hm_Row_size cl_Row rfl wd_401 wd_402 lk_Desk_138 d_Desk_fingerprint_37 rfl (Nat.le_of_ble_eq_true rfl) (fun _ _ hh => hcall 51 _ _ _ _ hh) (fun v11 h10 => ?_)
  refine ax_icmp_ge B 77 d_Desk_fingerprint_40 (by decide) ?_ ?_
  · refine ax_lload B 1 d_Desk_fingerprint_77 rfl ?_
    exact ax_lreturn B d_Desk_fingerprint_79
  · refine ax_lload B 1 d_Desk_fingerprint_43 rfl ?_
    refine ax_bipush (v := 8) B d_Desk_fingerprint_45 (by decide) ?_
    refine ax_lushr B d_Desk_fingerprint_47 ?_
    refine ax_lload B 1 d_Desk_fingerprint_48 rfl ?_
    refine ax_aload_n B 0 d_Desk_fingerprint_50 rfl rfl ?_
    refine ax_getfr B cl_Desk (by decide) fk_Desk_33 d_Desk_fingerprint_51 (fun v12 => ?_)
    refine ax_iload B 2 d_Desk_fingerprint_54 rfl ?_
    refine ax_callVi (av := [ax_I x6]) (rest := [ax_L x4, ax_L ((x4.toUInt64 >>> ((8 : Int32).toInt64.toUInt64 &&& Int64.toUInt64 63)).toInt64)]) B E hm_Row_at cl_Row rfl wd_371 wd_372 lk_Desk_141 d_Desk_fingerprint_56 rfl (Nat.le_of_ble_eq_true rfl) (fun _ _ hh => hcall 45 _ _ _ _ hh) (fun v14 h13 => ?_)
    refine ax_i2l B d_Desk_fingerprint_59 ?_
    refine ax_lxor B d_Desk_fingerprint_60 ?_
    refine ax_ldc2 (v := 255) B wd_646 d_Desk_fingerprint_61 ?_
    refine ax_land B d_Desk_fingerprint_64 ?_
    refine ax_callSl (av := [ax_L ((x4 ^^^ (v14.toInt64)) &&& 255)]) (rest := [ax_L ((x4.toUInt64 >>> ((8 : Int32).toInt64.toUInt64 &&& Int64.toUInt64 63)).toInt64)]) B E hm_Desk_mixed wd_648 lk_Desk_146 d_Desk_fingerprint_65 rfl (Nat.le_of_ble_eq_true rfl) (fun _ _ hh => hcall 103 _ _ _ _ hh) (fun v16 h15 => ?_)
    refine ax_lxor B d_Desk_fingerprint_68 ?_
    refine ax_lstore (tv2 := [(4, ax_L (((x4.toUInt64 >>> ((8 : Int32).toInt64.toUInt64 &&& Int64.toUInt64 63)).toInt64) ^^^ v16)), (0, ax_A x0), (6, ax_I x6)]) B d_Desk_fingerprint_69 (by decide) rfl ?_
    refine ax_iinc (v := x6 + 1) (tv2 := [(6, ax_I (x6 + 1)), (4, ax_L (((x4.toUInt64 >>> ((8 : Int32).toInt64.toUInt64 &&& Int64.toUInt64 63)).toInt64) ^^^ v16)), (0, ax_A x0)]) B 2 d_Desk_fingerprint_71 rfl (congrArg (_ + ·) (by decide)) (by decide) rfl ?_
    refine ax_goto B 31 d_Desk_fingerprint_74 (by decide) ?_
    refine ax_sub (tv2 := [(0, ax_A x0), (4, ax_L (((x4.toUInt64 >>> ((8 : Int32).toInt64.toUInt64 &&& Int64.toUInt64 63)).toInt64) ^^^ v16)), (6, ax_I (x6 + 1))]) [2, 1, 0] rfl ?_
    exact hk31 x0 (((x4.toUInt64 >>> ((8 : Int32).toInt64.toUInt64 &&& Int64.toUInt64 63)).toInt64) ^^^ v16) (x6 + 1) h15
theorem Desk_fingerprint_lq31 {l : Launch} {G : ax_G} {d : Nat} {call : ax_Cf} (hcall : ax_Hc l G d call) {p : Program} {e : Env} {s : State} {mi : MethodId} {args : Array Value} {below : List Frame} {meth : Method} {c : Code} {h0 : ax_Hp} (B : ax_B G p s mi meth c "SchemaDesk" prog_1_method_11_code 7 (some (.long))) (E : c.exceptionTable.isEmpty = true) (Nm : meth.name = y_Desk_fingerprint.name)   : ∀ (n : Nat) (x0 : Option Nat) (x4 : Int64) (x6 : Int32) (h : ax_Hp), ax_W G p l e s mi args below meth c 7 (d + 1) h0 31 [(0, ax_A x0), (4, ax_L x4), (6, ax_I x6)] [] h (Desk_fingerprint_lp31 call  n x0 x4 x6 h)
  | 0, _, _, _, _ => ax_none
  | n + 1, x0, x4, x6, h => Desk_fingerprint_lb31 hcall B E Nm   (Desk_fingerprint_lq31 hcall B E Nm   n) x0 x4 x6 h
def Desk_fingerprint_b (call : ax_Cf) (x0 : Option Nat) (x1 : Int32) (x2 : Int32) (h : ax_Hp) : ax_O :=
  ax_on h x0 8 <| ax_cr (call 94 [ax_A x0, ax_I x1, ax_I x2] h) fun v2 h1 =>
  (ax_gr h1 x0 8 6).bind fun v3 =>
  ax_on h1 v3 2 <| ax_ci (call 10 [ax_A v3] h1) fun v5 h4 =>
  (ax_gr h4 x0 8 6).bind fun v6 =>
  ax_on h4 v2 3 <| ax_cv (call 98 [ax_A v2, ax_A v6] h4) fun h7 =>
  Desk_fingerprint_lp31 call ax_fuel x0 (-4513414715797952619) 0 h7
set_option maxHeartbeats 4000000 in
set_option maxRecDepth 20000 in
theorem Desk_fingerprint_t {l : Launch} {G : ax_G} {d : Nat} {call : ax_Cf} (hcall : ax_Hc l G d call) (x0 : Option Nat) (x1 : Int32) (x2 : Int32) (h : ax_Hp) {r : ax_Rs} {h' : ax_Hp} (ho : Desk_fingerprint_b call x0 x1 x2 h = some (r, h')) : ax_C l G (d + 1) y_Desk_fingerprint (.code y_Desk_fingerprint prog_1_method_11_code 7 (some (.long))) [ax_A x0, ax_I x1, ax_I x2] h r h' := by
  refine ax_enter (by decide) (Nat.le_of_ble_eq_true rfl) ho (fun p e s mi args below meth c B E Nm => ?_)
  have B : ax_B G p s mi meth c "SchemaDesk" prog_1_method_11_code 7 (some (.long)) := B
  show ax_W G p l e s mi args below meth c 7 (d + 1) h 0 [(0, ax_A x0), (1, ax_I x1), (2, ax_I x2)] [] h (Desk_fingerprint_b call x0 x1 x2 h)
  unfold Desk_fingerprint_b
  refine ax_aload_n B 0 d_Desk_fingerprint_0 rfl rfl ?_
  refine ax_iload_n B 1 d_Desk_fingerprint_1 rfl rfl ?_
  refine ax_iload_n B 2 d_Desk_fingerprint_2 rfl rfl ?_
  refine ax_callVr (av := [ax_I x1, ax_I x2]) (rest := []) B E hm_Desk_versionAt cl_Desk rfl wd_609 wp_20 lk_Desk_117 d_Desk_fingerprint_3 rfl (Nat.le_of_ble_eq_true rfl) (fun _ _ hh => hcall 94 _ _ _ _ hh) (fun v2 h1 => ?_)
  refine ax_astore_n (tv2 := [(3, ax_A v2), (0, ax_A x0), (1, ax_I x1), (2, ax_I x2)]) B d_Desk_fingerprint_6 rfl (by decide) rfl ?_
  refine ax_aload_n B 1 d_Desk_fingerprint_7 rfl rfl ?_
  refine ax_getfr B cl_Desk (by decide) fk_Desk_33 d_Desk_fingerprint_8 (fun v3 => ?_)
  refine ax_callVi (av := []) (rest := []) B E hm_Row_clear cl_Row rfl wd_131 wd_132 lk_Desk_66 d_Desk_fingerprint_11 rfl (Nat.le_of_ble_eq_true rfl) (fun _ _ hh => hcall 10 _ _ _ _ hh) (fun v5 h4 => ?_)
  refine ax_pop B d_Desk_fingerprint_14 rfl ?_
  refine ax_aload_n B 0 d_Desk_fingerprint_15 rfl rfl ?_
  refine ax_aload_n B 1 d_Desk_fingerprint_16 rfl rfl ?_
  refine ax_getfr B cl_Desk (by decide) fk_Desk_33 d_Desk_fingerprint_17 (fun v6 => ?_)
  refine ax_callVv (av := [ax_A v6]) (rest := []) B E hm_Schema_copyBareTo cl_Schema rfl wd_624 wd_625 lk_Desk_127 d_Desk_fingerprint_20 rfl (Nat.le_of_ble_eq_true rfl) (fun _ _ hh => hcall 98 _ _ _ _ hh) (fun h7 => ?_)
  refine ax_ldc2 (v := (-4513414715797952619)) B wd_644 d_Desk_fingerprint_23 ?_
  refine ax_lstore (tv2 := [(4, ax_L (-4513414715797952619)), (3, ax_A v2), (0, ax_A x0), (1, ax_I x1), (2, ax_I x2)]) B d_Desk_fingerprint_26 (by decide) rfl ?_
  refine ax_iconst (v := 0) B d_Desk_fingerprint_28 (by decide) ?_
  refine ax_istore (tv2 := [(6, ax_I 0), (4, ax_L (-4513414715797952619)), (3, ax_A v2), (0, ax_A x0), (1, ax_I x1), (2, ax_I x2)]) B d_Desk_fingerprint_29 (by decide) rfl ?_
  refine ax_sub (tv2 := [(0, ax_A x0), (4, ax_L (-4513414715797952619)), (6, ax_I 0)]) [3, 1, 0] rfl ?_
  exact Desk_fingerprint_lq31 hcall B E Nm ax_fuel x0 (-4513414715797952619) 0 h7

theorem d_Desk_mixed_0 : decode prog_1_method_25_code 0 = .ok (.lload_n 0, 1) := by decide +kernel
theorem d_Desk_mixed_1 : decode prog_1_method_25_code 1 = .ok (.lstore_n 2, 1) := by decide +kernel
theorem d_Desk_mixed_2 : decode prog_1_method_25_code 2 = .ok (.iconst 0, 1) := by decide +kernel
theorem d_Desk_mixed_3 : decode prog_1_method_25_code 3 = .ok (.istore 4, 2) := by decide +kernel
theorem d_Desk_mixed_5 : decode prog_1_method_25_code 5 = .ok (.iload 4, 2) := by decide +kernel
theorem d_Desk_mixed_7 : decode prog_1_method_25_code 7 = .ok (.bipush 8, 2) := by decide +kernel
theorem d_Desk_mixed_9 : decode prog_1_method_25_code 9 = .ok (.if_icmp .ge 39, 3) := by decide +kernel
theorem d_Desk_mixed_12 : decode prog_1_method_25_code 12 = .ok (.lload_n 2, 1) := by decide +kernel
theorem d_Desk_mixed_13 : decode prog_1_method_25_code 13 = .ok (.lconst 1, 1) := by decide +kernel
theorem d_Desk_mixed_14 : decode prog_1_method_25_code 14 = .ok (.land, 1) := by decide +kernel
theorem d_Desk_mixed_15 : decode prog_1_method_25_code 15 = .ok (.lconst 0, 1) := by decide +kernel
theorem d_Desk_mixed_16 : decode prog_1_method_25_code 16 = .ok (.lcmp, 1) := by decide +kernel
theorem d_Desk_mixed_17 : decode prog_1_method_25_code 17 = .ok (.ifCond .eq 7, 3) := by decide +kernel
theorem d_Desk_mixed_20 : decode prog_1_method_25_code 20 = .ok (.iconst 1, 1) := by decide +kernel
theorem d_Desk_mixed_21 : decode prog_1_method_25_code 21 = .ok (.goto 4, 3) := by decide +kernel
theorem d_Desk_mixed_24 : decode prog_1_method_25_code 24 = .ok (.iconst 0, 1) := by decide +kernel
theorem d_Desk_mixed_25 : decode prog_1_method_25_code 25 = .ok (.istore 5, 2) := by decide +kernel
theorem d_Desk_mixed_27 : decode prog_1_method_25_code 27 = .ok (.lload_n 2, 1) := by decide +kernel
theorem d_Desk_mixed_28 : decode prog_1_method_25_code 28 = .ok (.iconst 1, 1) := by decide +kernel
theorem d_Desk_mixed_29 : decode prog_1_method_25_code 29 = .ok (.lushr, 1) := by decide +kernel
theorem d_Desk_mixed_30 : decode prog_1_method_25_code 30 = .ok (.lstore_n 2, 1) := by decide +kernel
theorem d_Desk_mixed_31 : decode prog_1_method_25_code 31 = .ok (.iload 5, 2) := by decide +kernel
theorem d_Desk_mixed_33 : decode prog_1_method_25_code 33 = .ok (.ifCond .eq 9, 3) := by decide +kernel
theorem d_Desk_mixed_36 : decode prog_1_method_25_code 36 = .ok (.lload_n 2, 1) := by decide +kernel
theorem d_Desk_mixed_37 : decode prog_1_method_25_code 37 = .ok (.ldc2_w 136, 3) := by decide +kernel
theorem d_Desk_mixed_40 : decode prog_1_method_25_code 40 = .ok (.lxor, 1) := by decide +kernel
theorem d_Desk_mixed_41 : decode prog_1_method_25_code 41 = .ok (.lstore_n 2, 1) := by decide +kernel
theorem d_Desk_mixed_42 : decode prog_1_method_25_code 42 = .ok (.iinc 4 1, 3) := by decide +kernel
theorem d_Desk_mixed_45 : decode prog_1_method_25_code 45 = .ok (.goto (-40), 3) := by decide +kernel
theorem d_Desk_mixed_48 : decode prog_1_method_25_code 48 = .ok (.lload_n 2, 1) := by decide +kernel
theorem d_Desk_mixed_49 : decode prog_1_method_25_code 49 = .ok (.lreturn, 1) := by decide +kernel
def Desk_mixed_bd5 (call : ax_Cf)  (k5 : Int64 → Int32 → ax_Hp → ax_O) (x2 : Int64) (x4 : Int32) (h : ax_Hp) : ax_O :=
  if 8 ≤ x4 then
    ax_rl x2 h
  else
    if (lg_cmp (x2 &&& 1) 0) = 0 then
      k5 ((x2.toUInt64 >>> ((1 : Int32).toInt64.toUInt64 &&& Int64.toUInt64 63)).toInt64) (x4 + 1) h
    else
      k5 (((x2.toUInt64 >>> ((1 : Int32).toInt64.toUInt64 &&& Int64.toUInt64 63)).toInt64) ^^^ (-4513414715797952619)) (x4 + 1) h
def Desk_mixed_lp5 (call : ax_Cf)  : Nat → Int64 → Int32 → ax_Hp → ax_O
  | 0 => fun _ _ _ => none
  | n + 1 => Desk_mixed_bd5 call  (Desk_mixed_lp5 call  n)
set_option maxHeartbeats 4000000 in
set_option maxRecDepth 20000 in
theorem Desk_mixed_lb5 {l : Launch} {G : ax_G} {d : Nat} {call : ax_Cf} (hcall : ax_Hc l G d call) {p : Program} {e : Env} {s : State} {mi : MethodId} {args : Array Value} {below : List Frame} {meth : Method} {c : Code} {h0 : ax_Hp} (B : ax_B G p s mi meth c "SchemaDesk" prog_1_method_25_code 6 (some (.long))) (E : c.exceptionTable.isEmpty = true) (Nm : meth.name = y_Desk_mixed.name)   {k5 : Int64 → Int32 → ax_Hp → ax_O} (hk5 : ∀ (x2 : Int64) (x4 : Int32) (h : ax_Hp), ax_W G p l e s mi args below meth c 6 (d + 1) h0 5 [(2, ax_L x2), (4, ax_I x4)] [] h (k5 x2 x4 h)) (x2 : Int64) (x4 : Int32) (h : ax_Hp) : ax_W G p l e s mi args below meth c 6 (d + 1) h0 5 [(2, ax_L x2), (4, ax_I x4)] [] h (Desk_mixed_bd5 call  k5 x2 x4 h) := by
  unfold Desk_mixed_bd5
  refine ax_iload B 1 d_Desk_mixed_5 rfl ?_
  refine ax_bipush (v := 8) B d_Desk_mixed_7 (by decide) ?_
  refine ax_icmp_ge B 48 d_Desk_mixed_9 (by decide) ?_ ?_
  · refine ax_lload_n B 0 d_Desk_mixed_48 rfl rfl ?_
    exact ax_lreturn B d_Desk_mixed_49
  · refine ax_lload_n B 0 d_Desk_mixed_12 rfl rfl ?_
    refine ax_lconst (v := 1) B d_Desk_mixed_13 (by decide) ?_
    refine ax_land B d_Desk_mixed_14 ?_
    refine ax_lconst (v := 0) B d_Desk_mixed_15 (by decide) ?_
    refine ax_lcmp B d_Desk_mixed_16 ?_
    refine ax_if_eq B 24 d_Desk_mixed_17 (by decide) ?_ ?_
    · refine ax_iconst (v := 0) B d_Desk_mixed_24 (by decide) ?_
      refine ax_istore (tv2 := [(5, ax_I 0), (2, ax_L x2), (4, ax_I x4)]) B d_Desk_mixed_25 (by decide) rfl ?_
      refine ax_lload_n B 1 d_Desk_mixed_27 rfl rfl ?_
      refine ax_iconst (v := 1) B d_Desk_mixed_28 (by decide) ?_
      refine ax_lushr B d_Desk_mixed_29 ?_
      refine ax_lstore_n (tv2 := [(2, ax_L ((x2.toUInt64 >>> ((1 : Int32).toInt64.toUInt64 &&& Int64.toUInt64 63)).toInt64)), (5, ax_I 0), (4, ax_I x4)]) B d_Desk_mixed_30 rfl (by decide) rfl ?_
      refine ax_iload B 1 d_Desk_mixed_31 rfl ?_
      refine ax_if_eq_T B 42 d_Desk_mixed_33 (by decide) (by decide) ?_
      refine ax_iinc (v := x4 + 1) (tv2 := [(4, ax_I (x4 + 1)), (2, ax_L ((x2.toUInt64 >>> ((1 : Int32).toInt64.toUInt64 &&& Int64.toUInt64 63)).toInt64)), (5, ax_I 0)]) B 2 d_Desk_mixed_42 rfl (congrArg (_ + ·) (by decide)) (by decide) rfl ?_
      refine ax_goto B 5 d_Desk_mixed_45 (by decide) ?_
      refine ax_sub (tv2 := [(2, ax_L ((x2.toUInt64 >>> ((1 : Int32).toInt64.toUInt64 &&& Int64.toUInt64 63)).toInt64)), (4, ax_I (x4 + 1))]) [1, 0] rfl ?_
      exact hk5 ((x2.toUInt64 >>> ((1 : Int32).toInt64.toUInt64 &&& Int64.toUInt64 63)).toInt64) (x4 + 1) h
    · refine ax_iconst (v := 1) B d_Desk_mixed_20 (by decide) ?_
      refine ax_goto B 25 d_Desk_mixed_21 (by decide) ?_
      refine ax_istore (tv2 := [(5, ax_I 1), (2, ax_L x2), (4, ax_I x4)]) B d_Desk_mixed_25 (by decide) rfl ?_
      refine ax_lload_n B 1 d_Desk_mixed_27 rfl rfl ?_
      refine ax_iconst (v := 1) B d_Desk_mixed_28 (by decide) ?_
      refine ax_lushr B d_Desk_mixed_29 ?_
      refine ax_lstore_n (tv2 := [(2, ax_L ((x2.toUInt64 >>> ((1 : Int32).toInt64.toUInt64 &&& Int64.toUInt64 63)).toInt64)), (5, ax_I 1), (4, ax_I x4)]) B d_Desk_mixed_30 rfl (by decide) rfl ?_
      refine ax_iload B 1 d_Desk_mixed_31 rfl ?_
      refine ax_if_eq_F B 42 d_Desk_mixed_33 (by decide) (by decide) ?_
      refine ax_lload_n B 0 d_Desk_mixed_36 rfl rfl ?_
      refine ax_ldc2 (v := (-4513414715797952619)) B wd_644 d_Desk_mixed_37 ?_
      refine ax_lxor B d_Desk_mixed_40 ?_
      refine ax_lstore_n (tv2 := [(2, ax_L (((x2.toUInt64 >>> ((1 : Int32).toInt64.toUInt64 &&& Int64.toUInt64 63)).toInt64) ^^^ (-4513414715797952619))), (5, ax_I 1), (4, ax_I x4)]) B d_Desk_mixed_41 rfl (by decide) rfl ?_
      refine ax_iinc (v := x4 + 1) (tv2 := [(4, ax_I (x4 + 1)), (2, ax_L (((x2.toUInt64 >>> ((1 : Int32).toInt64.toUInt64 &&& Int64.toUInt64 63)).toInt64) ^^^ (-4513414715797952619))), (5, ax_I 1)]) B 2 d_Desk_mixed_42 rfl (congrArg (_ + ·) (by decide)) (by decide) rfl ?_
      refine ax_goto B 5 d_Desk_mixed_45 (by decide) ?_
      refine ax_sub (tv2 := [(2, ax_L (((x2.toUInt64 >>> ((1 : Int32).toInt64.toUInt64 &&& Int64.toUInt64 63)).toInt64) ^^^ (-4513414715797952619))), (4, ax_I (x4 + 1))]) [1, 0] rfl ?_
      exact hk5 (((x2.toUInt64 >>> ((1 : Int32).toInt64.toUInt64 &&& Int64.toUInt64 63)).toInt64) ^^^ (-4513414715797952619)) (x4 + 1) h
theorem Desk_mixed_lq5 {l : Launch} {G : ax_G} {d : Nat} {call : ax_Cf} (hcall : ax_Hc l G d call) {p : Program} {e : Env} {s : State} {mi : MethodId} {args : Array Value} {below : List Frame} {meth : Method} {c : Code} {h0 : ax_Hp} (B : ax_B G p s mi meth c "SchemaDesk" prog_1_method_25_code 6 (some (.long))) (E : c.exceptionTable.isEmpty = true) (Nm : meth.name = y_Desk_mixed.name)   : ∀ (n : Nat) (x2 : Int64) (x4 : Int32) (h : ax_Hp), ax_W G p l e s mi args below meth c 6 (d + 1) h0 5 [(2, ax_L x2), (4, ax_I x4)] [] h (Desk_mixed_lp5 call  n x2 x4 h)
  | 0, _, _, _ => ax_none
  | n + 1, x2, x4, h => Desk_mixed_lb5 hcall B E Nm   (Desk_mixed_lq5 hcall B E Nm   n) x2 x4 h
def Desk_mixed_b (call : ax_Cf) (x0 : Int64) (h : ax_Hp) : ax_O :=
  Desk_mixed_lp5 call ax_fuel x0 0 h
set_option maxHeartbeats 4000000 in
set_option maxRecDepth 20000 in
theorem Desk_mixed_t {l : Launch} {G : ax_G} {d : Nat} {call : ax_Cf} (hcall : ax_Hc l G d call) (x0 : Int64) (h : ax_Hp) {r : ax_Rs} {h' : ax_Hp} (ho : Desk_mixed_b call x0 h = some (r, h')) : ax_C l G (d + 1) y_Desk_mixed (.code y_Desk_mixed prog_1_method_25_code 6 (some (.long))) [ax_L x0] h r h' := by
  refine ax_enter (by decide) (Nat.le_of_ble_eq_true rfl) ho (fun p e s mi args below meth c B E Nm => ?_)
  have B : ax_B G p s mi meth c "SchemaDesk" prog_1_method_25_code 6 (some (.long)) := B
  show ax_W G p l e s mi args below meth c 6 (d + 1) h 0 [(0, ax_L x0)] [] h (Desk_mixed_b call x0 h)
  unfold Desk_mixed_b
  refine ax_lload_n B 0 d_Desk_mixed_0 rfl rfl ?_
  refine ax_lstore_n (tv2 := [(2, ax_L x0), (0, ax_L x0)]) B d_Desk_mixed_1 rfl (by decide) rfl ?_
  refine ax_iconst (v := 0) B d_Desk_mixed_2 (by decide) ?_
  refine ax_istore (tv2 := [(4, ax_I 0), (2, ax_L x0), (0, ax_L x0)]) B d_Desk_mixed_3 (by decide) rfl ?_
  refine ax_sub (tv2 := [(2, ax_L x0), (4, ax_I 0)]) [1, 0] rfl ?_
  exact Desk_mixed_lq5 hcall B E Nm ax_fuel x0 0 h

theorem d_Desk_encode_0 : decode prog_1_method_12_code 0 = .ok (.aload_n 0, 1) := by decide +kernel
theorem d_Desk_encode_1 : decode prog_1_method_12_code 1 = .ok (.iload_n 1, 1) := by decide +kernel
theorem d_Desk_encode_2 : decode prog_1_method_12_code 2 = .ok (.iload_n 2, 1) := by decide +kernel
theorem d_Desk_encode_3 : decode prog_1_method_12_code 3 = .ok (.invokevirtual 117, 3) := by decide +kernel
theorem d_Desk_encode_6 : decode prog_1_method_12_code 6 = .ok (.astore_n 3, 1) := by decide +kernel
theorem d_Desk_encode_7 : decode prog_1_method_12_code 7 = .ok (.new 80, 3) := by decide +kernel
theorem d_Desk_encode_10 : decode prog_1_method_12_code 10 = .ok (.dup, 1) := by decide +kernel
theorem d_Desk_encode_11 : decode prog_1_method_12_code 11 = .ok (.aload_n 0, 1) := by decide +kernel
theorem d_Desk_encode_12 : decode prog_1_method_12_code 12 = .ok (.getfield 14, 3) := by decide +kernel
theorem d_Desk_encode_15 : decode prog_1_method_12_code 15 = .ok (.invokespecial 82, 3) := by decide +kernel
theorem d_Desk_encode_18 : decode prog_1_method_12_code 18 = .ok (.astore 4, 2) := by decide +kernel
theorem d_Desk_encode_20 : decode prog_1_method_12_code 20 = .ok (.aload_n 0, 1) := by decide +kernel
theorem d_Desk_encode_21 : decode prog_1_method_12_code 21 = .ok (.getfield 33, 3) := by decide +kernel
theorem d_Desk_encode_24 : decode prog_1_method_12_code 24 = .ok (.invokevirtual 66, 3) := by decide +kernel
theorem d_Desk_encode_27 : decode prog_1_method_12_code 27 = .ok (.pop, 1) := by decide +kernel
theorem d_Desk_encode_28 : decode prog_1_method_12_code 28 = .ok (.new 150, 3) := by decide +kernel
theorem d_Desk_encode_31 : decode prog_1_method_12_code 31 = .ok (.dup, 1) := by decide +kernel
theorem d_Desk_encode_32 : decode prog_1_method_12_code 32 = .ok (.aload 4, 2) := by decide +kernel
theorem d_Desk_encode_34 : decode prog_1_method_12_code 34 = .ok (.aload_n 3, 1) := by decide +kernel
theorem d_Desk_encode_35 : decode prog_1_method_12_code 35 = .ok (.aload_n 0, 1) := by decide +kernel
theorem d_Desk_encode_36 : decode prog_1_method_12_code 36 = .ok (.getfield 33, 3) := by decide +kernel
theorem d_Desk_encode_39 : decode prog_1_method_12_code 39 = .ok (.iconst 0, 1) := by decide +kernel
theorem d_Desk_encode_40 : decode prog_1_method_12_code 40 = .ok (.invokespecial 152, 3) := by decide +kernel
theorem d_Desk_encode_43 : decode prog_1_method_12_code 43 = .ok (.invokevirtual 155, 3) := by decide +kernel
theorem d_Desk_encode_46 : decode prog_1_method_12_code 46 = .ok (.ifCond .ne 20, 3) := by decide +kernel
theorem d_Desk_encode_49 : decode prog_1_method_12_code 49 = .ok (.aload_n 0, 1) := by decide +kernel
theorem d_Desk_encode_50 : decode prog_1_method_12_code 50 = .ok (.aload 4, 2) := by decide +kernel
theorem d_Desk_encode_52 : decode prog_1_method_12_code 52 = .ok (.invokevirtual 94, 3) := by decide +kernel
theorem d_Desk_encode_55 : decode prog_1_method_12_code 55 = .ok (.putfield 47, 3) := by decide +kernel
theorem d_Desk_encode_58 : decode prog_1_method_12_code 58 = .ok (.new 73, 3) := by decide +kernel
theorem d_Desk_encode_61 : decode prog_1_method_12_code 61 = .ok (.dup, 1) := by decide +kernel
theorem d_Desk_encode_62 : decode prog_1_method_12_code 62 = .ok (.invokespecial 75, 3) := by decide +kernel
theorem d_Desk_encode_65 : decode prog_1_method_12_code 65 = .ok (.athrow, 1) := by decide +kernel
theorem d_Desk_encode_66 : decode prog_1_method_12_code 66 = .ok (.aload_n 0, 1) := by decide +kernel
theorem d_Desk_encode_67 : decode prog_1_method_12_code 67 = .ok (.getfield 14, 3) := by decide +kernel
theorem d_Desk_encode_70 : decode prog_1_method_12_code 70 = .ok (.invokevirtual 66, 3) := by decide +kernel
theorem d_Desk_encode_73 : decode prog_1_method_12_code 73 = .ok (.pop, 1) := by decide +kernel
theorem d_Desk_encode_74 : decode prog_1_method_12_code 74 = .ok (.aload_n 0, 1) := by decide +kernel
theorem d_Desk_encode_75 : decode prog_1_method_12_code 75 = .ok (.iconst (-1), 1) := by decide +kernel
theorem d_Desk_encode_76 : decode prog_1_method_12_code 76 = .ok (.putfield 47, 3) := by decide +kernel
theorem d_Desk_encode_79 : decode prog_1_method_12_code 79 = .ok (.aload_n 0, 1) := by decide +kernel
theorem d_Desk_encode_80 : decode prog_1_method_12_code 80 = .ok (.invokevirtual 133, 3) := by decide +kernel
theorem d_Desk_encode_83 : decode prog_1_method_12_code 83 = .ok (.ireturn, 1) := by decide +kernel
def Desk_encode_b (call : ax_Cf) (x0 : Option Nat) (x1 : Int32) (x2 : Int32) (h : ax_Hp) : ax_O :=
  ax_on h x0 8 <| ax_cr (call 94 [ax_A x0, ax_I x1, ax_I x2] h) fun v2 h1 =>
  ax_nw (ax_new h1 0 [ax_A none, ax_I 0, ax_I 0]) fun a3 h4 =>
  (ax_gr h4 x0 8 0).bind fun v5 =>
  ax_cv (call 20 [ax_A (some a3), ax_A v5] h4) fun h6 =>
  (ax_gr h6 x0 8 6).bind fun v8 =>
  ax_on h6 v8 2 <| ax_ci (call 10 [ax_A v8] h6) fun v10 h9 =>
  ax_nw (ax_new h9 7 [ax_A none, ax_A none, ax_A none, ax_I 0]) fun a11 h12 =>
  (ax_gr h12 x0 8 6).bind fun v13 =>
  ax_cv (call 22 [ax_A (some a11), ax_A (some a3), ax_A v2, ax_A v13, ax_I 0] h12) fun h14 =>
  ax_on h14 (some a11) 7 <| ax_ci (call 106 [ax_A (some a11)] h14) fun v17 h16 =>
  if v17 = 0 then
    ax_on h16 (some a3) 0 <| ax_ci (call 27 [ax_A (some a3)] h16) fun v25 h24 =>
    (ax_pf h24 x0 8 7 (ax_I v25)).bind fun h26 =>
    ax_th h26 0
  else
    (ax_gr h16 x0 8 0).bind fun v18 =>
    ax_on h16 v18 2 <| ax_ci (call 10 [ax_A v18] h16) fun v20 h19 =>
    (ax_pf h19 x0 8 7 (ax_I (-1))).bind fun h21 =>
    ax_on h21 x0 8 <| ax_ci (call 100 [ax_A x0] h21) fun v23 h22 =>
    ax_ri v23 h22
set_option maxHeartbeats 4000000 in
set_option maxRecDepth 20000 in
theorem Desk_encode_t {l : Launch} {G : ax_G} {d : Nat} {call : ax_Cf} (hcall : ax_Hc l G d call) (hd8 : 8 ≤ d) (hl : l.stackTraces = false) (x0 : Option Nat) (x1 : Int32) (x2 : Int32) (h : ax_Hp) {r : ax_Rs} {h' : ax_Hp} (ho : Desk_encode_b call x0 x1 x2 h = some (r, h')) : ax_C l G (d + 1) y_Desk_encode (.code y_Desk_encode prog_1_method_12_code 5 (some (.int))) [ax_A x0, ax_I x1, ax_I x2] h r h' := by
  refine ax_enter (by decide) (Nat.le_of_ble_eq_true rfl) ho (fun p e s mi args below meth c B E Nm => ?_)
  have B : ax_B G p s mi meth c "SchemaDesk" prog_1_method_12_code 5 (some (.int)) := B
  show ax_W G p l e s mi args below meth c 5 (d + 1) h 0 [(0, ax_A x0), (1, ax_I x1), (2, ax_I x2)] [] h (Desk_encode_b call x0 x1 x2 h)
  unfold Desk_encode_b
  refine ax_aload_n B 0 d_Desk_encode_0 rfl rfl ?_
  refine ax_iload_n B 1 d_Desk_encode_1 rfl rfl ?_
  refine ax_iload_n B 2 d_Desk_encode_2 rfl rfl ?_
  refine ax_callVr (av := [ax_I x1, ax_I x2]) (rest := []) B E hm_Desk_versionAt cl_Desk rfl wd_609 wp_20 lk_Desk_117 d_Desk_encode_3 rfl (Nat.le_of_ble_eq_true rfl) (fun _ _ hh => hcall 94 _ _ _ _ hh) (fun v2 h1 => ?_)
  refine ax_astore_n (tv2 := [(3, ax_A v2), (0, ax_A x0), (1, ax_I x1), (2, ax_I x2)]) B d_Desk_encode_6 rfl (by decide) rfl ?_
  refine ax_newo B cl_Cursor wd_233 wd_234 wd_10 rfl df_Cursor d_Desk_encode_7 (fun a3 h4 => ?_)
  refine ax_dup B d_Desk_encode_10 rfl ?_
  refine ax_aload_n B 1 d_Desk_encode_11 rfl rfl ?_
  refine ax_getfr B cl_Desk (by decide) fk_Desk_14 d_Desk_encode_12 (fun v5 => ?_)
  refine ax_callIv (av := [ax_A v5]) (rest := [ax_A (some a3)]) B E hm_Cursor_init rfl wd_236 lk_Desk_82 d_Desk_encode_15 rfl (Nat.le_of_ble_eq_true rfl) (fun _ _ hh => hcall 20 _ _ _ _ hh) (fun h6 => ?_)
  refine ax_astore (tv2 := [(4, ax_A (some a3)), (3, ax_A v2), (0, ax_A x0), (1, ax_I x1), (2, ax_I x2)]) B d_Desk_encode_18 (by decide) rfl ?_
  refine ax_aload_n B 2 d_Desk_encode_20 rfl rfl ?_
  refine ax_getfr B cl_Desk (by decide) fk_Desk_33 d_Desk_encode_21 (fun v8 => ?_)
  refine ax_callVi (av := []) (rest := []) B E hm_Row_clear cl_Row rfl wd_131 wd_132 lk_Desk_66 d_Desk_encode_24 rfl (Nat.le_of_ble_eq_true rfl) (fun _ _ hh => hcall 10 _ _ _ _ hh) (fun v10 h9 => ?_)
  refine ax_pop B d_Desk_encode_27 rfl ?_
  refine ax_newo B cl_ValueReader wd_657 wd_258 wd_12 rfl df_ValueReader d_Desk_encode_28 (fun a11 h12 => ?_)
  refine ax_dup B d_Desk_encode_31 rfl ?_
  refine ax_aload B 0 d_Desk_encode_32 rfl ?_
  refine ax_aload_n B 1 d_Desk_encode_34 rfl rfl ?_
  refine ax_aload_n B 2 d_Desk_encode_35 rfl rfl ?_
  refine ax_getfr B cl_Desk (by decide) fk_Desk_33 d_Desk_encode_36 (fun v13 => ?_)
  refine ax_iconst (v := 0) B d_Desk_encode_39 (by decide) ?_
  refine ax_callIv (av := [ax_A (some a3), ax_A v2, ax_A v13, ax_I 0]) (rest := [ax_A (some a11)]) B E hm_ValueReader_init rfl wd_260 lk_Desk_152 d_Desk_encode_40 rfl (Nat.le_of_ble_eq_true rfl) (fun _ _ hh => hcall 22 _ _ _ _ hh) (fun h14 => ?_)
  refine ax_callVi (av := []) (rest := []) B E hm_ValueReader_readWhole cl_ValueReader rfl wd_660 wd_661 lk_Desk_155 d_Desk_encode_43 rfl (Nat.le_of_ble_eq_true rfl) (fun _ _ hh => hcall 106 _ _ _ _ hh) (fun v17 h16 => ?_)
  refine ax_if_ne B 66 d_Desk_encode_46 (by decide) ?_ ?_
  · refine ax_aload_n B 2 d_Desk_encode_66 rfl rfl ?_
    refine ax_getfr B cl_Desk (by decide) fk_Desk_14 d_Desk_encode_67 (fun v18 => ?_)
    refine ax_callVi (av := []) (rest := []) B E hm_Row_clear cl_Row rfl wd_131 wd_132 lk_Desk_66 d_Desk_encode_70 rfl (Nat.le_of_ble_eq_true rfl) (fun _ _ hh => hcall 10 _ _ _ _ hh) (fun v20 h19 => ?_)
    refine ax_pop B d_Desk_encode_73 rfl ?_
    refine ax_aload_n B 2 d_Desk_encode_74 rfl rfl ?_
    refine ax_iconst (v := (-1)) B d_Desk_encode_75 (by decide) ?_
    refine ax_putf (v := ax_I (-1)) B cl_Desk (by decide) fk_Desk_47 (Or.inl rfl) (fun _ => rfl) (fun _ => rfl) d_Desk_encode_76 (fun h21 => ?_)
    refine ax_aload_n B 2 d_Desk_encode_79 rfl rfl ?_
    refine ax_callVi (av := []) (rest := []) B E hm_Desk_showDraft cl_Desk rfl wd_634 wp_21 lk_Desk_133 d_Desk_encode_80 rfl (Nat.le_of_ble_eq_true rfl) (fun _ _ hh => hcall 100 _ _ _ _ hh) (fun v23 h22 => ?_)
    exact ax_ireturn B d_Desk_encode_83
  · refine ax_aload_n B 2 d_Desk_encode_49 rfl rfl ?_
    refine ax_aload B 0 d_Desk_encode_50 rfl ?_
    refine ax_callVi (av := []) (rest := [ax_A x0]) B E hm_Cursor_at cl_Cursor rfl wd_302 wd_303 lk_Desk_94 d_Desk_encode_52 rfl (Nat.le_of_ble_eq_true rfl) (fun _ _ hh => hcall 27 _ _ _ _ hh) (fun v25 h24 => ?_)
    refine ax_putf (v := ax_I v25) B cl_Desk (by decide) fk_Desk_47 (Or.inl rfl) (fun _ => rfl) (fun _ => rfl) d_Desk_encode_55 (fun h26 => ?_)
    exact ax_throw B E hd8 hl th_Desk_73_75 d_Desk_encode_58 d_Desk_encode_61 d_Desk_encode_62 d_Desk_encode_65 (Nat.le_of_ble_eq_true rfl)

theorem d_Desk_decode_0 : decode prog_1_method_13_code 0 = .ok (.aload_n 0, 1) := by decide +kernel
theorem d_Desk_decode_1 : decode prog_1_method_13_code 1 = .ok (.iload_n 1, 1) := by decide +kernel
theorem d_Desk_decode_2 : decode prog_1_method_13_code 2 = .ok (.iload_n 2, 1) := by decide +kernel
theorem d_Desk_decode_3 : decode prog_1_method_13_code 3 = .ok (.invokevirtual 117, 3) := by decide +kernel
theorem d_Desk_decode_6 : decode prog_1_method_13_code 6 = .ok (.astore 4, 2) := by decide +kernel
theorem d_Desk_decode_8 : decode prog_1_method_13_code 8 = .ok (.aload_n 0, 1) := by decide +kernel
theorem d_Desk_decode_9 : decode prog_1_method_13_code 9 = .ok (.iload_n 1, 1) := by decide +kernel
theorem d_Desk_decode_10 : decode prog_1_method_13_code 10 = .ok (.iload_n 3, 1) := by decide +kernel
theorem d_Desk_decode_11 : decode prog_1_method_13_code 11 = .ok (.invokevirtual 117, 3) := by decide +kernel
theorem d_Desk_decode_14 : decode prog_1_method_13_code 14 = .ok (.astore 5, 2) := by decide +kernel
theorem d_Desk_decode_16 : decode prog_1_method_13_code 16 = .ok (.new 80, 3) := by decide +kernel
theorem d_Desk_decode_19 : decode prog_1_method_13_code 19 = .ok (.dup, 1) := by decide +kernel
theorem d_Desk_decode_20 : decode prog_1_method_13_code 20 = .ok (.aload_n 0, 1) := by decide +kernel
theorem d_Desk_decode_21 : decode prog_1_method_13_code 21 = .ok (.getfield 27, 3) := by decide +kernel
theorem d_Desk_decode_24 : decode prog_1_method_13_code 24 = .ok (.invokespecial 82, 3) := by decide +kernel
theorem d_Desk_decode_27 : decode prog_1_method_13_code 27 = .ok (.astore 6, 2) := by decide +kernel
theorem d_Desk_decode_29 : decode prog_1_method_13_code 29 = .ok (.new 156, 3) := by decide +kernel
theorem d_Desk_decode_32 : decode prog_1_method_13_code 32 = .ok (.dup, 1) := by decide +kernel
theorem d_Desk_decode_33 : decode prog_1_method_13_code 33 = .ok (.aload 6, 2) := by decide +kernel
theorem d_Desk_decode_35 : decode prog_1_method_13_code 35 = .ok (.aload 4, 2) := by decide +kernel
theorem d_Desk_decode_37 : decode prog_1_method_13_code 37 = .ok (.invokespecial 158, 3) := by decide +kernel
theorem d_Desk_decode_40 : decode prog_1_method_13_code 40 = .ok (.astore 7, 2) := by decide +kernel
theorem d_Desk_decode_42 : decode prog_1_method_13_code 42 = .ok (.aload 7, 2) := by decide +kernel
theorem d_Desk_decode_44 : decode prog_1_method_13_code 44 = .ok (.invokevirtual 159, 3) := by decide +kernel
theorem d_Desk_decode_47 : decode prog_1_method_13_code 47 = .ok (.ifCond .ne 20, 3) := by decide +kernel
theorem d_Desk_decode_50 : decode prog_1_method_13_code 50 = .ok (.aload_n 0, 1) := by decide +kernel
theorem d_Desk_decode_51 : decode prog_1_method_13_code 51 = .ok (.aload 6, 2) := by decide +kernel
theorem d_Desk_decode_53 : decode prog_1_method_13_code 53 = .ok (.invokevirtual 94, 3) := by decide +kernel
theorem d_Desk_decode_56 : decode prog_1_method_13_code 56 = .ok (.putfield 47, 3) := by decide +kernel
theorem d_Desk_decode_59 : decode prog_1_method_13_code 59 = .ok (.new 73, 3) := by decide +kernel
theorem d_Desk_decode_62 : decode prog_1_method_13_code 62 = .ok (.dup, 1) := by decide +kernel
theorem d_Desk_decode_63 : decode prog_1_method_13_code 63 = .ok (.invokespecial 75, 3) := by decide +kernel
theorem d_Desk_decode_66 : decode prog_1_method_13_code 66 = .ok (.athrow, 1) := by decide +kernel
theorem d_Desk_decode_67 : decode prog_1_method_13_code 67 = .ok (.aload_n 0, 1) := by decide +kernel
theorem d_Desk_decode_68 : decode prog_1_method_13_code 68 = .ok (.getfield 33, 3) := by decide +kernel
theorem d_Desk_decode_71 : decode prog_1_method_13_code 71 = .ok (.invokevirtual 66, 3) := by decide +kernel
theorem d_Desk_decode_74 : decode prog_1_method_13_code 74 = .ok (.pop, 1) := by decide +kernel
theorem d_Desk_decode_75 : decode prog_1_method_13_code 75 = .ok (.new 160, 3) := by decide +kernel
theorem d_Desk_decode_78 : decode prog_1_method_13_code 78 = .ok (.dup, 1) := by decide +kernel
theorem d_Desk_decode_79 : decode prog_1_method_13_code 79 = .ok (.aload 6, 2) := by decide +kernel
theorem d_Desk_decode_81 : decode prog_1_method_13_code 81 = .ok (.aload 4, 2) := by decide +kernel
theorem d_Desk_decode_83 : decode prog_1_method_13_code 83 = .ok (.aload 5, 2) := by decide +kernel
theorem d_Desk_decode_85 : decode prog_1_method_13_code 85 = .ok (.aload_n 0, 1) := by decide +kernel
theorem d_Desk_decode_86 : decode prog_1_method_13_code 86 = .ok (.getfield 33, 3) := by decide +kernel
theorem d_Desk_decode_89 : decode prog_1_method_13_code 89 = .ok (.aload_n 0, 1) := by decide +kernel
theorem d_Desk_decode_90 : decode prog_1_method_13_code 90 = .ok (.getfield 43, 3) := by decide +kernel
theorem d_Desk_decode_93 : decode prog_1_method_13_code 93 = .ok (.invokespecial 162, 3) := by decide +kernel
theorem d_Desk_decode_96 : decode prog_1_method_13_code 96 = .ok (.invokevirtual 165, 3) := by decide +kernel
theorem d_Desk_decode_99 : decode prog_1_method_13_code 99 = .ok (.ifCond .ne 11, 3) := by decide +kernel
theorem d_Desk_decode_102 : decode prog_1_method_13_code 102 = .ok (.new 105, 3) := by decide +kernel
theorem d_Desk_decode_105 : decode prog_1_method_13_code 105 = .ok (.dup, 1) := by decide +kernel
theorem d_Desk_decode_106 : decode prog_1_method_13_code 106 = .ok (.invokespecial 107, 3) := by decide +kernel
theorem d_Desk_decode_109 : decode prog_1_method_13_code 109 = .ok (.athrow, 1) := by decide +kernel
theorem d_Desk_decode_110 : decode prog_1_method_13_code 110 = .ok (.aload_n 0, 1) := by decide +kernel
theorem d_Desk_decode_111 : decode prog_1_method_13_code 111 = .ok (.getfield 27, 3) := by decide +kernel
theorem d_Desk_decode_114 : decode prog_1_method_13_code 114 = .ok (.invokevirtual 66, 3) := by decide +kernel
theorem d_Desk_decode_117 : decode prog_1_method_13_code 117 = .ok (.pop, 1) := by decide +kernel
theorem d_Desk_decode_118 : decode prog_1_method_13_code 118 = .ok (.aload_n 0, 1) := by decide +kernel
theorem d_Desk_decode_119 : decode prog_1_method_13_code 119 = .ok (.iconst (-1), 1) := by decide +kernel
theorem d_Desk_decode_120 : decode prog_1_method_13_code 120 = .ok (.putfield 47, 3) := by decide +kernel
theorem d_Desk_decode_123 : decode prog_1_method_13_code 123 = .ok (.aload_n 0, 1) := by decide +kernel
theorem d_Desk_decode_124 : decode prog_1_method_13_code 124 = .ok (.invokevirtual 133, 3) := by decide +kernel
theorem d_Desk_decode_127 : decode prog_1_method_13_code 127 = .ok (.ireturn, 1) := by decide +kernel
def Desk_decode_b (call : ax_Cf) (x0 : Option Nat) (x1 : Int32) (x2 : Int32) (x3 : Int32) (h : ax_Hp) : ax_O :=
  ax_on h x0 8 <| ax_cr (call 94 [ax_A x0, ax_I x1, ax_I x2] h) fun v2 h1 =>
  ax_on h1 x0 8 <| ax_cr (call 94 [ax_A x0, ax_I x1, ax_I x3] h1) fun v4 h3 =>
  ax_nw (ax_new h3 0 [ax_A none, ax_I 0, ax_I 0]) fun a5 h6 =>
  (ax_gr h6 x0 8 2).bind fun v7 =>
  ax_cv (call 20 [ax_A (some a5), ax_A v7] h6) fun h8 =>
  ax_nw (ax_new h8 5 [ax_A none, ax_A none, ax_L 0]) fun a10 h11 =>
  ax_cv (call 109 [ax_A (some a10), ax_A (some a5), ax_A v2] h11) fun h12 =>
  ax_on h12 (some a10) 5 <| ax_ci (call 110 [ax_A (some a10)] h12) fun v15 h14 =>
  if v15 = 0 then
    ax_on h14 (some a5) 0 <| ax_ci (call 27 [ax_A (some a5)] h14) fun v34 h33 =>
    (ax_pf h33 x0 8 7 (ax_I v34)).bind fun h35 =>
    ax_th h35 0
  else
    (ax_gr h14 x0 8 6).bind fun v16 =>
    ax_on h14 v16 2 <| ax_ci (call 10 [ax_A v16] h14) fun v18 h17 =>
    ax_nw (ax_new h17 1 [ax_A none, ax_A none, ax_A none, ax_A none, ax_A none, ax_A none]) fun a19 h20 =>
    (ax_gr h20 x0 8 6).bind fun v21 =>
    (ax_gr h20 x0 8 4).bind fun v22 =>
    ax_cv (call 123 [ax_A (some a19), ax_A (some a5), ax_A v2, ax_A v4, ax_A v21, ax_A v22] h20) fun h23 =>
    ax_on h23 (some a19) 1 <| ax_ci (call 124 [ax_A (some a19)] h23) fun v26 h25 =>
    if v26 = 0 then
      ax_th h25 1
    else
      (ax_gr h25 x0 8 2).bind fun v27 =>
      ax_on h25 v27 2 <| ax_ci (call 10 [ax_A v27] h25) fun v29 h28 =>
      (ax_pf h28 x0 8 7 (ax_I (-1))).bind fun h30 =>
      ax_on h30 x0 8 <| ax_ci (call 100 [ax_A x0] h30) fun v32 h31 =>
      ax_ri v32 h31
set_option maxHeartbeats 4000000 in
set_option maxRecDepth 20000 in
theorem Desk_decode_t {l : Launch} {G : ax_G} {d : Nat} {call : ax_Cf} (hcall : ax_Hc l G d call) (hd8 : 8 ≤ d) (hl : l.stackTraces = false) (x0 : Option Nat) (x1 : Int32) (x2 : Int32) (x3 : Int32) (h : ax_Hp) {r : ax_Rs} {h' : ax_Hp} (ho : Desk_decode_b call x0 x1 x2 x3 h = some (r, h')) : ax_C l G (d + 1) y_Desk_decode (.code y_Desk_decode prog_1_method_13_code 8 (some (.int))) [ax_A x0, ax_I x1, ax_I x2, ax_I x3] h r h' := by
  refine ax_enter (by decide) (Nat.le_of_ble_eq_true rfl) ho (fun p e s mi args below meth c B E Nm => ?_)
  have B : ax_B G p s mi meth c "SchemaDesk" prog_1_method_13_code 8 (some (.int)) := B
  show ax_W G p l e s mi args below meth c 8 (d + 1) h 0 [(0, ax_A x0), (1, ax_I x1), (2, ax_I x2), (3, ax_I x3)] [] h (Desk_decode_b call x0 x1 x2 x3 h)
  unfold Desk_decode_b
  refine ax_aload_n B 0 d_Desk_decode_0 rfl rfl ?_
  refine ax_iload_n B 1 d_Desk_decode_1 rfl rfl ?_
  refine ax_iload_n B 2 d_Desk_decode_2 rfl rfl ?_
  refine ax_callVr (av := [ax_I x1, ax_I x2]) (rest := []) B E hm_Desk_versionAt cl_Desk rfl wd_609 wp_20 lk_Desk_117 d_Desk_decode_3 rfl (Nat.le_of_ble_eq_true rfl) (fun _ _ hh => hcall 94 _ _ _ _ hh) (fun v2 h1 => ?_)
  refine ax_astore (tv2 := [(4, ax_A v2), (0, ax_A x0), (1, ax_I x1), (2, ax_I x2), (3, ax_I x3)]) B d_Desk_decode_6 (by decide) rfl ?_
  refine ax_aload_n B 1 d_Desk_decode_8 rfl rfl ?_
  refine ax_iload_n B 2 d_Desk_decode_9 rfl rfl ?_
  refine ax_iload_n B 4 d_Desk_decode_10 rfl rfl ?_
  refine ax_callVr (av := [ax_I x1, ax_I x3]) (rest := []) B E hm_Desk_versionAt cl_Desk rfl wd_609 wp_20 lk_Desk_117 d_Desk_decode_11 rfl (Nat.le_of_ble_eq_true rfl) (fun _ _ hh => hcall 94 _ _ _ _ hh) (fun v4 h3 => ?_)
  refine ax_astore (tv2 := [(5, ax_A v4), (4, ax_A v2), (0, ax_A x0), (1, ax_I x1), (2, ax_I x2), (3, ax_I x3)]) B d_Desk_decode_14 (by decide) rfl ?_
  refine ax_newo B cl_Cursor wd_233 wd_234 wd_10 rfl df_Cursor d_Desk_decode_16 (fun a5 h6 => ?_)
  refine ax_dup B d_Desk_decode_19 rfl ?_
  refine ax_aload_n B 2 d_Desk_decode_20 rfl rfl ?_
  refine ax_getfr B cl_Desk (by decide) fk_Desk_27 d_Desk_decode_21 (fun v7 => ?_)
  refine ax_callIv (av := [ax_A v7]) (rest := [ax_A (some a5)]) B E hm_Cursor_init rfl wd_236 lk_Desk_82 d_Desk_decode_24 rfl (Nat.le_of_ble_eq_true rfl) (fun _ _ hh => hcall 20 _ _ _ _ hh) (fun h8 => ?_)
  refine ax_astore (tv2 := [(6, ax_A (some a5)), (5, ax_A v4), (4, ax_A v2), (0, ax_A x0), (1, ax_I x1), (2, ax_I x2), (3, ax_I x3)]) B d_Desk_decode_27 (by decide) rfl ?_
  refine ax_newo B cl_StreamReader wd_670 wd_671 wd_18 rfl df_StreamReader d_Desk_decode_29 (fun a10 h11 => ?_)
  refine ax_dup B d_Desk_decode_32 rfl ?_
  refine ax_aload B 0 d_Desk_decode_33 rfl ?_
  refine ax_aload B 2 d_Desk_decode_35 rfl ?_
  refine ax_callIv (av := [ax_A (some a5), ax_A v2]) (rest := [ax_A (some a10)]) B E hm_StreamReader_init rfl wd_673 lk_Desk_158 d_Desk_decode_37 rfl (Nat.le_of_ble_eq_true rfl) (fun _ _ hh => hcall 109 _ _ _ _ hh) (fun h12 => ?_)
  refine ax_astore (tv2 := [(7, ax_A (some a10)), (6, ax_A (some a5)), (5, ax_A v4), (4, ax_A v2), (0, ax_A x0), (1, ax_I x1), (2, ax_I x2), (3, ax_I x3)]) B d_Desk_decode_40 (by decide) rfl ?_
  refine ax_aload B 0 d_Desk_decode_42 rfl ?_
  refine ax_callVi (av := []) (rest := []) B E hm_StreamReader_readWhole cl_StreamReader rfl wd_687 wd_688 lk_Desk_159 d_Desk_decode_44 rfl (Nat.le_of_ble_eq_true rfl) (fun _ _ hh => hcall 110 _ _ _ _ hh) (fun v15 h14 => ?_)
  refine ax_if_ne B 67 d_Desk_decode_47 (by decide) ?_ ?_
  · refine ax_aload_n B 4 d_Desk_decode_67 rfl rfl ?_
    refine ax_getfr B cl_Desk (by decide) fk_Desk_33 d_Desk_decode_68 (fun v16 => ?_)
    refine ax_callVi (av := []) (rest := []) B E hm_Row_clear cl_Row rfl wd_131 wd_132 lk_Desk_66 d_Desk_decode_71 rfl (Nat.le_of_ble_eq_true rfl) (fun _ _ hh => hcall 10 _ _ _ _ hh) (fun v18 h17 => ?_)
    refine ax_pop B d_Desk_decode_74 rfl ?_
    refine ax_newo B cl_Resolver wd_751 wd_752 wd_19 rfl df_Resolver d_Desk_decode_75 (fun a19 h20 => ?_)
    refine ax_dup B d_Desk_decode_78 rfl ?_
    refine ax_aload B 1 d_Desk_decode_79 rfl ?_
    refine ax_aload B 3 d_Desk_decode_81 rfl ?_
    refine ax_aload B 2 d_Desk_decode_83 rfl ?_
    refine ax_aload_n B 4 d_Desk_decode_85 rfl rfl ?_
    refine ax_getfr B cl_Desk (by decide) fk_Desk_33 d_Desk_decode_86 (fun v21 => ?_)
    refine ax_aload_n B 4 d_Desk_decode_89 rfl rfl ?_
    refine ax_getfr B cl_Desk (by decide) fk_Desk_43 d_Desk_decode_90 (fun v22 => ?_)
    refine ax_callIv (av := [ax_A (some a5), ax_A v2, ax_A v4, ax_A v21, ax_A v22]) (rest := [ax_A (some a19)]) B E hm_Resolver_init rfl wd_754 lk_Desk_162 d_Desk_decode_93 rfl (Nat.le_of_ble_eq_true rfl) (fun _ _ hh => hcall 123 _ _ _ _ hh) (fun h23 => ?_)
    refine ax_callVi (av := []) (rest := []) B E hm_Resolver_resolveWhole cl_Resolver rfl wd_779 wd_780 lk_Desk_165 d_Desk_decode_96 rfl (Nat.le_of_ble_eq_true rfl) (fun _ _ hh => hcall 124 _ _ _ _ hh) (fun v26 h25 => ?_)
    refine ax_if_ne B 110 d_Desk_decode_99 (by decide) ?_ ?_
    · refine ax_aload_n B 4 d_Desk_decode_110 rfl rfl ?_
      refine ax_getfr B cl_Desk (by decide) fk_Desk_27 d_Desk_decode_111 (fun v27 => ?_)
      refine ax_callVi (av := []) (rest := []) B E hm_Row_clear cl_Row rfl wd_131 wd_132 lk_Desk_66 d_Desk_decode_114 rfl (Nat.le_of_ble_eq_true rfl) (fun _ _ hh => hcall 10 _ _ _ _ hh) (fun v29 h28 => ?_)
      refine ax_pop B d_Desk_decode_117 rfl ?_
      refine ax_aload_n B 4 d_Desk_decode_118 rfl rfl ?_
      refine ax_iconst (v := (-1)) B d_Desk_decode_119 (by decide) ?_
      refine ax_putf (v := ax_I (-1)) B cl_Desk (by decide) fk_Desk_47 (Or.inl rfl) (fun _ => rfl) (fun _ => rfl) d_Desk_decode_120 (fun h30 => ?_)
      refine ax_aload_n B 4 d_Desk_decode_123 rfl rfl ?_
      refine ax_callVi (av := []) (rest := []) B E hm_Desk_showDraft cl_Desk rfl wd_634 wp_21 lk_Desk_133 d_Desk_decode_124 rfl (Nat.le_of_ble_eq_true rfl) (fun _ _ hh => hcall 100 _ _ _ _ hh) (fun v32 h31 => ?_)
      exact ax_ireturn B d_Desk_decode_127
    · exact ax_throw B E hd8 hl th_Desk_105_107 d_Desk_decode_102 d_Desk_decode_105 d_Desk_decode_106 d_Desk_decode_109 (Nat.le_of_ble_eq_true rfl)
  · refine ax_aload_n B 4 d_Desk_decode_50 rfl rfl ?_
    refine ax_aload B 1 d_Desk_decode_51 rfl ?_
    refine ax_callVi (av := []) (rest := [ax_A x0]) B E hm_Cursor_at cl_Cursor rfl wd_302 wd_303 lk_Desk_94 d_Desk_decode_53 rfl (Nat.le_of_ble_eq_true rfl) (fun _ _ hh => hcall 27 _ _ _ _ hh) (fun v34 h33 => ?_)
    refine ax_putf (v := ax_I v34) B cl_Desk (by decide) fk_Desk_47 (Or.inl rfl) (fun _ => rfl) (fun _ => rfl) d_Desk_decode_56 (fun h35 => ?_)
    exact ax_throw B E hd8 hl th_Desk_73_75 d_Desk_decode_59 d_Desk_decode_62 d_Desk_decode_63 d_Desk_decode_66 (Nat.le_of_ble_eq_true rfl)

theorem d_Desk_out_0 : decode prog_1_method_15_code 0 = .ok (.iload_n 1, 1) := by decide +kernel
theorem d_Desk_out_1 : decode prog_1_method_15_code 1 = .ok (.ifCond .lt 14, 3) := by decide +kernel
theorem d_Desk_out_4 : decode prog_1_method_15_code 4 = .ok (.iload_n 1, 1) := by decide +kernel
theorem d_Desk_out_5 : decode prog_1_method_15_code 5 = .ok (.aload_n 0, 1) := by decide +kernel
theorem d_Desk_out_6 : decode prog_1_method_15_code 6 = .ok (.getfield 30, 3) := by decide +kernel
theorem d_Desk_out_9 : decode prog_1_method_15_code 9 = .ok (.invokevirtual 138, 3) := by decide +kernel
theorem d_Desk_out_12 : decode prog_1_method_15_code 12 = .ok (.if_icmp .lt 11, 3) := by decide +kernel
theorem d_Desk_out_15 : decode prog_1_method_15_code 15 = .ok (.new 168, 3) := by decide +kernel
theorem d_Desk_out_18 : decode prog_1_method_15_code 18 = .ok (.dup, 1) := by decide +kernel
theorem d_Desk_out_19 : decode prog_1_method_15_code 19 = .ok (.invokespecial 170, 3) := by decide +kernel
theorem d_Desk_out_22 : decode prog_1_method_15_code 22 = .ok (.athrow, 1) := by decide +kernel
theorem d_Desk_out_23 : decode prog_1_method_15_code 23 = .ok (.aload_n 0, 1) := by decide +kernel
theorem d_Desk_out_24 : decode prog_1_method_15_code 24 = .ok (.getfield 30, 3) := by decide +kernel
theorem d_Desk_out_27 : decode prog_1_method_15_code 27 = .ok (.iload_n 1, 1) := by decide +kernel
theorem d_Desk_out_28 : decode prog_1_method_15_code 28 = .ok (.invokevirtual 141, 3) := by decide +kernel
theorem d_Desk_out_31 : decode prog_1_method_15_code 31 = .ok (.ireturn, 1) := by decide +kernel
def Desk_out_b (call : ax_Cf) (x0 : Option Nat) (x1 : Int32) (h : ax_Hp) : ax_O :=
  if x1 < 0 then
    ax_th h 2
  else
    (ax_gr h x0 8 5).bind fun v1 =>
    ax_on h v1 2 <| ax_ci (call 51 [ax_A v1] h) fun v3 h2 =>
    if x1 < v3 then
      (ax_gr h2 x0 8 5).bind fun v4 =>
      ax_on h2 v4 2 <| ax_ci (call 45 [ax_A v4, ax_I x1] h2) fun v6 h5 =>
      ax_ri v6 h5
    else
      ax_th h2 2
set_option maxHeartbeats 4000000 in
set_option maxRecDepth 20000 in
theorem Desk_out_t {l : Launch} {G : ax_G} {d : Nat} {call : ax_Cf} (hcall : ax_Hc l G d call) (hd8 : 8 ≤ d) (hl : l.stackTraces = false) (x0 : Option Nat) (x1 : Int32) (h : ax_Hp) {r : ax_Rs} {h' : ax_Hp} (ho : Desk_out_b call x0 x1 h = some (r, h')) : ax_C l G (d + 1) y_Desk_out (.code y_Desk_out prog_1_method_15_code 2 (some (.int))) [ax_A x0, ax_I x1] h r h' := by
  refine ax_enter (by decide) (Nat.le_of_ble_eq_true rfl) ho (fun p e s mi args below meth c B E Nm => ?_)
  have B : ax_B G p s mi meth c "SchemaDesk" prog_1_method_15_code 2 (some (.int)) := B
  show ax_W G p l e s mi args below meth c 2 (d + 1) h 0 [(0, ax_A x0), (1, ax_I x1)] [] h (Desk_out_b call x0 x1 h)
  unfold Desk_out_b
  refine ax_iload_n B 1 d_Desk_out_0 rfl rfl ?_
  refine ax_if_lt B 15 d_Desk_out_1 (by decide) ?_ ?_
  · exact ax_throw B E hd8 hl th_Desk_168_170 d_Desk_out_15 d_Desk_out_18 d_Desk_out_19 d_Desk_out_22 (Nat.le_of_ble_eq_true rfl)
  · refine ax_iload_n B 1 d_Desk_out_4 rfl rfl ?_
    refine ax_aload_n B 0 d_Desk_out_5 rfl rfl ?_
    refine ax_getfr B cl_Desk (by decide) fk_Desk_30 d_Desk_out_6 (fun v1 => ?_)
    refine ax_callVi (av := []) (rest := [ax_I x1]) B E hm_Row_size cl_Row rfl wd_401 wd_402 lk_Desk_138 d_Desk_out_9 rfl (Nat.le_of_ble_eq_true rfl) (fun _ _ hh => hcall 51 _ _ _ _ hh) (fun v3 h2 => ?_)
    refine ax_icmp_lt B 23 d_Desk_out_12 (by decide) ?_ ?_
    · refine ax_aload_n B 0 d_Desk_out_23 rfl rfl ?_
      refine ax_getfr B cl_Desk (by decide) fk_Desk_30 d_Desk_out_24 (fun v4 => ?_)
      refine ax_iload_n B 1 d_Desk_out_27 rfl rfl ?_
      refine ax_callVi (av := [ax_I x1]) (rest := []) B E hm_Row_at cl_Row rfl wd_371 wd_372 lk_Desk_141 d_Desk_out_28 rfl (Nat.le_of_ble_eq_true rfl) (fun _ _ hh => hcall 45 _ _ _ _ hh) (fun v6 h5 => ?_)
      exact ax_ireturn B d_Desk_out_31
    · exact ax_throw B E hd8 hl th_Desk_168_170 d_Desk_out_15 d_Desk_out_18 d_Desk_out_19 d_Desk_out_22 (Nat.le_of_ble_eq_true rfl)
