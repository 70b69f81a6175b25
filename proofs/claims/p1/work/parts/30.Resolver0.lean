theorem d_Resolver_init_0 : decode prog_4_method_1_code 0 = .ok (.aload_n 0, 1) := by decide +kernel
theorem d_Resolver_init_1 : decode prog_4_method_1_code 1 = .ok (.invokespecial 3, 3) := by decide +kernel
theorem d_Resolver_init_4 : decode prog_4_method_1_code 4 = .ok (.aload_n 0, 1) := by decide +kernel
theorem d_Resolver_init_5 : decode prog_4_method_1_code 5 = .ok (.aload_n 1, 1) := by decide +kernel
theorem d_Resolver_init_6 : decode prog_4_method_1_code 6 = .ok (.putfield 9, 3) := by decide +kernel
theorem d_Resolver_init_9 : decode prog_4_method_1_code 9 = .ok (.aload_n 0, 1) := by decide +kernel
theorem d_Resolver_init_10 : decode prog_4_method_1_code 10 = .ok (.aload_n 2, 1) := by decide +kernel
theorem d_Resolver_init_11 : decode prog_4_method_1_code 11 = .ok (.putfield 15, 3) := by decide +kernel
theorem d_Resolver_init_14 : decode prog_4_method_1_code 14 = .ok (.aload_n 0, 1) := by decide +kernel
theorem d_Resolver_init_15 : decode prog_4_method_1_code 15 = .ok (.aload_n 3, 1) := by decide +kernel
theorem d_Resolver_init_16 : decode prog_4_method_1_code 16 = .ok (.putfield 19, 3) := by decide +kernel
theorem d_Resolver_init_19 : decode prog_4_method_1_code 19 = .ok (.aload_n 0, 1) := by decide +kernel
theorem d_Resolver_init_20 : decode prog_4_method_1_code 20 = .ok (.aload 4, 2) := by decide +kernel
theorem d_Resolver_init_22 : decode prog_4_method_1_code 22 = .ok (.putfield 22, 3) := by decide +kernel
theorem d_Resolver_init_25 : decode prog_4_method_1_code 25 = .ok (.aload_n 0, 1) := by decide +kernel
theorem d_Resolver_init_26 : decode prog_4_method_1_code 26 = .ok (.aload 5, 2) := by decide +kernel
theorem d_Resolver_init_28 : decode prog_4_method_1_code 28 = .ok (.putfield 26, 3) := by decide +kernel
theorem d_Resolver_init_31 : decode prog_4_method_1_code 31 = .ok (.aload_n 0, 1) := by decide +kernel
theorem d_Resolver_init_32 : decode prog_4_method_1_code 32 = .ok (.new 30, 3) := by decide +kernel
theorem d_Resolver_init_35 : decode prog_4_method_1_code 35 = .ok (.dup, 1) := by decide +kernel
theorem d_Resolver_init_36 : decode prog_4_method_1_code 36 = .ok (.aload_n 1, 1) := by decide +kernel
theorem d_Resolver_init_37 : decode prog_4_method_1_code 37 = .ok (.aload_n 2, 1) := by decide +kernel
theorem d_Resolver_init_38 : decode prog_4_method_1_code 38 = .ok (.invokespecial 32, 3) := by decide +kernel
theorem d_Resolver_init_41 : decode prog_4_method_1_code 41 = .ok (.putfield 35, 3) := by decide +kernel
theorem d_Resolver_init_44 : decode prog_4_method_1_code 44 = .ok (.return_, 1) := by decide +kernel
def Resolver_init_b (call : ax_Cf) (x0 : Nat) (x1 : Option Nat) (x2 : Option Nat) (x3 : Option Nat) (x4 : Option Nat) (x5 : Option Nat) (h : ax_Hp) : ax_O :=
  (ax_pf h (some x0) 1 0 (ax_A x1)).bind fun h1 =>
  (ax_pf h1 (some x0) 1 2 (ax_A x2)).bind fun h2 =>
  (ax_pf h2 (some x0) 1 3 (ax_A x3)).bind fun h3 =>
  (ax_pf h3 (some x0) 1 4 (ax_A x4)).bind fun h4 =>
  (ax_pf h4 (some x0) 1 5 (ax_A x5)).bind fun h5 =>
  ax_nw (ax_new h5 5 [ax_A none, ax_A none, ax_L 0]) fun a6 h7 =>
  ax_cv (call 109 [ax_A (some a6), ax_A x1, ax_A x2] h7) fun h8 =>
  (ax_pf h8 (some x0) 1 1 (ax_A (some a6))).bind fun h10 =>
  ax_rv h10
set_option maxHeartbeats 4000000 in
set_option maxRecDepth 20000 in
theorem Resolver_init_t {l : Launch} {G : ax_G} {d : Nat} {call : ax_Cf} (hcall : ax_Hc l G d call) (x0 : Nat) (x1 : Option Nat) (x2 : Option Nat) (x3 : Option Nat) (x4 : Option Nat) (x5 : Option Nat) (h : ax_Hp) {r : ax_Rs} {h' : ax_Hp} (ho : Resolver_init_b call x0 x1 x2 x3 x4 x5 h = some (r, h')) : ax_C l G (d + 1) y_Resolver_init (.code y_Resolver_init prog_4_method_1_code 6 none) [ax_A (some x0), ax_A x1, ax_A x2, ax_A x3, ax_A x4, ax_A x5] h r h' := by
  refine ax_enter (by decide) (Nat.le_of_ble_eq_true rfl) ho (fun p e s mi args below meth c B E Nm => ?_)
  have B : ax_B G p s mi meth c "SchemaDesk$Resolver" prog_4_method_1_code 6 none := B
  show ax_W G p l e s mi args below meth c 6 (d + 1) h 0 [(0, ax_A (some x0)), (1, ax_A x1), (2, ax_A x2), (3, ax_A x3), (4, ax_A x4), (5, ax_A x5)] [] h (Resolver_init_b call x0 x1 x2 x3 x4 x5 h)
  unfold Resolver_init_b
  refine ax_aload_n B 0 d_Resolver_init_0 rfl rfl ?_
  refine ax_objinit B wd_756 wd_27 wd_objcode (Nat.le_of_ble_eq_true rfl) d_Resolver_init_1 ?_
  refine ax_aload_n B 0 d_Resolver_init_4 rfl rfl ?_
  refine ax_aload_n B 1 d_Resolver_init_5 rfl rfl ?_
  refine ax_putf (v := ax_A x1) B cl_Resolver (by decide) fk_Resolver_9 (Or.inr ⟨wd_759, rfl, Nm, rfl⟩) (fun _ => ax_narO) (fun _ => ax_fitO) d_Resolver_init_6 (fun h1 => ?_)
  refine ax_aload_n B 0 d_Resolver_init_9 rfl rfl ?_
  refine ax_aload_n B 2 d_Resolver_init_10 rfl rfl ?_
  refine ax_putf (v := ax_A x2) B cl_Resolver (by decide) fk_Resolver_15 (Or.inr ⟨wd_761, rfl, Nm, rfl⟩) (fun _ => ax_narO) (fun _ => ax_fitO) d_Resolver_init_11 (fun h2 => ?_)
  refine ax_aload_n B 0 d_Resolver_init_14 rfl rfl ?_
  refine ax_aload_n B 3 d_Resolver_init_15 rfl rfl ?_
  refine ax_putf (v := ax_A x3) B cl_Resolver (by decide) fk_Resolver_19 (Or.inr ⟨wd_762, rfl, Nm, rfl⟩) (fun _ => ax_narO) (fun _ => ax_fitO) d_Resolver_init_16 (fun h3 => ?_)
  refine ax_aload_n B 0 d_Resolver_init_19 rfl rfl ?_
  refine ax_aload B 4 d_Resolver_init_20 rfl ?_
  refine ax_putf (v := ax_A x4) B cl_Resolver (by decide) fk_Resolver_22 (Or.inr ⟨wd_763, rfl, Nm, rfl⟩) (fun _ => ax_narO) (fun _ => ax_fitO) d_Resolver_init_22 (fun h4 => ?_)
  refine ax_aload_n B 0 d_Resolver_init_25 rfl rfl ?_
  refine ax_aload B 5 d_Resolver_init_26 rfl ?_
  refine ax_putf (v := ax_A x5) B cl_Resolver (by decide) fk_Resolver_26 (Or.inr ⟨wd_764, rfl, Nm, rfl⟩) (fun _ => ax_narR) (fun _ => ax_fitR) d_Resolver_init_28 (fun h5 => ?_)
  refine ax_aload_n B 0 d_Resolver_init_31 rfl rfl ?_
  refine ax_newo B cl_StreamReader wd_757 wd_671 wd_18 rfl df_StreamReader d_Resolver_init_32 (fun a6 h7 => ?_)
  refine ax_dup B d_Resolver_init_35 rfl ?_
  refine ax_aload_n B 1 d_Resolver_init_36 rfl rfl ?_
  refine ax_aload_n B 2 d_Resolver_init_37 rfl rfl ?_
  refine ax_callIv (av := [ax_A x1, ax_A x2]) (rest := [ax_A (some a6), ax_A (some x0)]) B E hm_StreamReader_init rfl wd_673 lk_Resolver_32 d_Resolver_init_38 rfl (Nat.le_of_ble_eq_true rfl) (fun _ _ hh => hcall 109 _ _ _ _ hh) (fun h8 => ?_)
  refine ax_putf (v := ax_A (some a6)) B cl_Resolver (by decide) fk_Resolver_35 (Or.inr ⟨wd_760, rfl, Nm, rfl⟩) (fun _ => ax_narO) (fun _ => ax_fitO) d_Resolver_init_41 (fun h10 => ?_)
  exact ax_vreturn B d_Resolver_init_44

theorem d_Resolver_resolveWhole_0 : decode prog_4_method_2_code 0 = .ok (.aload_n 0, 1) := by decide +kernel
theorem d_Resolver_resolveWhole_1 : decode prog_4_method_2_code 1 = .ok (.getfield 9, 3) := by decide +kernel
theorem d_Resolver_resolveWhole_4 : decode prog_4_method_2_code 4 = .ok (.iconst 0, 1) := by decide +kernel
theorem d_Resolver_resolveWhole_5 : decode prog_4_method_2_code 5 = .ok (.invokevirtual 39, 3) := by decide +kernel
theorem d_Resolver_resolveWhole_8 : decode prog_4_method_2_code 8 = .ok (.aload_n 0, 1) := by decide +kernel
theorem d_Resolver_resolveWhole_9 : decode prog_4_method_2_code 9 = .ok (.iconst 0, 1) := by decide +kernel
theorem d_Resolver_resolveWhole_10 : decode prog_4_method_2_code 10 = .ok (.iconst 0, 1) := by decide +kernel
theorem d_Resolver_resolveWhole_11 : decode prog_4_method_2_code 11 = .ok (.iconst 0, 1) := by decide +kernel
theorem d_Resolver_resolveWhole_12 : decode prog_4_method_2_code 12 = .ok (.invokevirtual 45, 3) := by decide +kernel
theorem d_Resolver_resolveWhole_15 : decode prog_4_method_2_code 15 = .ok (.ireturn, 1) := by decide +kernel
def Resolver_resolveWhole_b (call : ax_Cf) (x0 : Option Nat) (h : ax_Hp) : ax_O :=
  (ax_gr h x0 1 0).bind fun v1 =>
  ax_on h v1 0 <| ax_cv (call 125 [ax_A v1, ax_I 0] h) fun h2 =>
  ax_on h2 x0 1 <| ax_ci (call 126 [ax_A x0, ax_I 0, ax_I 0, ax_I 0] h2) fun v5 h4 =>
  ax_rz v5 h4
set_option maxHeartbeats 4000000 in
set_option maxRecDepth 20000 in
theorem Resolver_resolveWhole_t {l : Launch} {G : ax_G} {d : Nat} {call : ax_Cf} (hcall : ax_Hc l G d call) (x0 : Option Nat) (h : ax_Hp) {r : ax_Rs} {h' : ax_Hp} (ho : Resolver_resolveWhole_b call x0 h = some (r, h')) : ax_C l G (d + 1) y_Resolver_resolveWhole (.code y_Resolver_resolveWhole prog_4_method_2_code 1 (some (.boolean))) [ax_A x0] h r h' := by
  refine ax_enter (by decide) (Nat.le_of_ble_eq_true rfl) ho (fun p e s mi args below meth c B E Nm => ?_)
  have B : ax_B G p s mi meth c "SchemaDesk$Resolver" prog_4_method_2_code 1 (some (.boolean)) := B
  show ax_W G p l e s mi args below meth c 1 (d + 1) h 0 [(0, ax_A x0)] [] h (Resolver_resolveWhole_b call x0 h)
  unfold Resolver_resolveWhole_b
  refine ax_aload_n B 0 d_Resolver_resolveWhole_0 rfl rfl ?_
  refine ax_getfr B cl_Resolver (by decide) fk_Resolver_9 d_Resolver_resolveWhole_1 (fun v1 => ?_)
  refine ax_iconst (v := 0) B d_Resolver_resolveWhole_4 (by decide) ?_
  refine ax_callVv (av := [ax_I 0]) (rest := []) B E hm_Cursor_moveTo cl_Cursor rfl wd_783 wd_784 lk_Resolver_39 d_Resolver_resolveWhole_5 rfl (Nat.le_of_ble_eq_true rfl) (fun _ _ hh => hcall 125 _ _ _ _ hh) (fun h2 => ?_)
  refine ax_aload_n B 0 d_Resolver_resolveWhole_8 rfl rfl ?_
  refine ax_iconst (v := 0) B d_Resolver_resolveWhole_9 (by decide) ?_
  refine ax_iconst (v := 0) B d_Resolver_resolveWhole_10 (by decide) ?_
  refine ax_iconst (v := 0) B d_Resolver_resolveWhole_11 (by decide) ?_
  refine ax_callVi (av := [ax_I 0, ax_I 0, ax_I 0]) (rest := []) B E hm_Resolver_resolve cl_Resolver rfl wd_788 wp_28 lk_Resolver_45 d_Resolver_resolveWhole_12 rfl (Nat.le_of_ble_eq_true rfl) (fun _ _ hh => hcall 126 _ _ _ _ hh) (fun v5 h4 => ?_)
  exact ax_zreturn B d_Resolver_resolveWhole_15

theorem d_Resolver_resolve_0 : decode prog_4_method_3_code 0 = .ok (.iload_n 3, 1) := by decide +kernel
theorem d_Resolver_resolve_1 : decode prog_4_method_3_code 1 = .ok (.bipush 12, 2) := by decide +kernel
theorem d_Resolver_resolve_3 : decode prog_4_method_3_code 3 = .ok (.if_icmp .le 5, 3) := by decide +kernel
theorem d_Resolver_resolve_6 : decode prog_4_method_3_code 6 = .ok (.iconst 0, 1) := by decide +kernel
theorem d_Resolver_resolve_7 : decode prog_4_method_3_code 7 = .ok (.ireturn, 1) := by decide +kernel
theorem d_Resolver_resolve_8 : decode prog_4_method_3_code 8 = .ok (.aload_n 0, 1) := by decide +kernel
theorem d_Resolver_resolve_9 : decode prog_4_method_3_code 9 = .ok (.getfield 15, 3) := by decide +kernel
theorem d_Resolver_resolve_12 : decode prog_4_method_3_code 12 = .ok (.iload_n 1, 1) := by decide +kernel
theorem d_Resolver_resolve_13 : decode prog_4_method_3_code 13 = .ok (.invokevirtual 51, 3) := by decide +kernel
theorem d_Resolver_resolve_16 : decode prog_4_method_3_code 16 = .ok (.istore 4, 2) := by decide +kernel
theorem d_Resolver_resolve_18 : decode prog_4_method_3_code 18 = .ok (.iload 4, 2) := by decide +kernel
theorem d_Resolver_resolve_20 : decode prog_4_method_3_code 20 = .ok (.bipush 85, 2) := by decide +kernel
theorem d_Resolver_resolve_22 : decode prog_4_method_3_code 22 = .ok (.if_icmp .ne 38, 3) := by decide +kernel
theorem d_Resolver_resolve_25 : decode prog_4_method_3_code 25 = .ok (.aload_n 0, 1) := by decide +kernel
theorem d_Resolver_resolve_26 : decode prog_4_method_3_code 26 = .ok (.getfield 35, 3) := by decide +kernel
theorem d_Resolver_resolve_29 : decode prog_4_method_3_code 29 = .ok (.iload_n 1, 1) := by decide +kernel
theorem d_Resolver_resolve_30 : decode prog_4_method_3_code 30 = .ok (.invokevirtual 57, 3) := by decide +kernel
theorem d_Resolver_resolve_33 : decode prog_4_method_3_code 33 = .ok (.istore 5, 2) := by decide +kernel
theorem d_Resolver_resolve_35 : decode prog_4_method_3_code 35 = .ok (.iload 5, 2) := by decide +kernel
theorem d_Resolver_resolve_37 : decode prog_4_method_3_code 37 = .ok (.iconst (-1), 1) := by decide +kernel
theorem d_Resolver_resolve_38 : decode prog_4_method_3_code 38 = .ok (.if_icmp .eq 20, 3) := by decide +kernel
theorem d_Resolver_resolve_41 : decode prog_4_method_3_code 41 = .ok (.aload_n 0, 1) := by decide +kernel
theorem d_Resolver_resolve_42 : decode prog_4_method_3_code 42 = .ok (.iload 5, 2) := by decide +kernel
theorem d_Resolver_resolve_44 : decode prog_4_method_3_code 44 = .ok (.iload_n 2, 1) := by decide +kernel
theorem d_Resolver_resolve_45 : decode prog_4_method_3_code 45 = .ok (.iload_n 3, 1) := by decide +kernel
theorem d_Resolver_resolve_46 : decode prog_4_method_3_code 46 = .ok (.iconst 1, 1) := by decide +kernel
theorem d_Resolver_resolve_47 : decode prog_4_method_3_code 47 = .ok (.iadd, 1) := by decide +kernel
theorem d_Resolver_resolve_48 : decode prog_4_method_3_code 48 = .ok (.invokevirtual 45, 3) := by decide +kernel
theorem d_Resolver_resolve_51 : decode prog_4_method_3_code 51 = .ok (.ifCond .eq 7, 3) := by decide +kernel
theorem d_Resolver_resolve_54 : decode prog_4_method_3_code 54 = .ok (.iconst 1, 1) := by decide +kernel
theorem d_Resolver_resolve_55 : decode prog_4_method_3_code 55 = .ok (.goto 4, 3) := by decide +kernel
theorem d_Resolver_resolve_58 : decode prog_4_method_3_code 58 = .ok (.iconst 0, 1) := by decide +kernel
theorem d_Resolver_resolve_59 : decode prog_4_method_3_code 59 = .ok (.ireturn, 1) := by decide +kernel
theorem d_Resolver_resolve_60 : decode prog_4_method_3_code 60 = .ok (.aload_n 0, 1) := by decide +kernel
theorem d_Resolver_resolve_61 : decode prog_4_method_3_code 61 = .ok (.getfield 19, 3) := by decide +kernel
theorem d_Resolver_resolve_64 : decode prog_4_method_3_code 64 = .ok (.iload_n 2, 1) := by decide +kernel
theorem d_Resolver_resolve_65 : decode prog_4_method_3_code 65 = .ok (.invokevirtual 51, 3) := by decide +kernel
theorem d_Resolver_resolve_68 : decode prog_4_method_3_code 68 = .ok (.istore 5, 2) := by decide +kernel
theorem d_Resolver_resolve_70 : decode prog_4_method_3_code 70 = .ok (.iload 5, 2) := by decide +kernel
theorem d_Resolver_resolve_72 : decode prog_4_method_3_code 72 = .ok (.bipush 85, 2) := by decide +kernel
theorem d_Resolver_resolve_74 : decode prog_4_method_3_code 74 = .ok (.if_icmp .ne 11, 3) := by decide +kernel
theorem d_Resolver_resolve_77 : decode prog_4_method_3_code 77 = .ok (.aload_n 0, 1) := by decide +kernel
theorem d_Resolver_resolve_78 : decode prog_4_method_3_code 78 = .ok (.iload_n 1, 1) := by decide +kernel
theorem d_Resolver_resolve_79 : decode prog_4_method_3_code 79 = .ok (.iload_n 2, 1) := by decide +kernel
theorem d_Resolver_resolve_80 : decode prog_4_method_3_code 80 = .ok (.iload_n 3, 1) := by decide +kernel
theorem d_Resolver_resolve_81 : decode prog_4_method_3_code 81 = .ok (.invokevirtual 60, 3) := by decide +kernel
theorem d_Resolver_resolve_84 : decode prog_4_method_3_code 84 = .ok (.ireturn, 1) := by decide +kernel
theorem d_Resolver_resolve_85 : decode prog_4_method_3_code 85 = .ok (.iload 5, 2) := by decide +kernel
theorem d_Resolver_resolve_87 : decode prog_4_method_3_code 87 = .ok (.iload 4, 2) := by decide +kernel
theorem d_Resolver_resolve_89 : decode prog_4_method_3_code 89 = .ok (.if_icmp .eq 19, 3) := by decide +kernel
theorem d_Resolver_resolve_92 : decode prog_4_method_3_code 92 = .ok (.iload 4, 2) := by decide +kernel
theorem d_Resolver_resolve_94 : decode prog_4_method_3_code 94 = .ok (.bipush 73, 2) := by decide +kernel
theorem d_Resolver_resolve_96 : decode prog_4_method_3_code 96 = .ok (.if_icmp .ne 10, 3) := by decide +kernel
theorem d_Resolver_resolve_99 : decode prog_4_method_3_code 99 = .ok (.iload 5, 2) := by decide +kernel
theorem d_Resolver_resolve_101 : decode prog_4_method_3_code 101 = .ok (.bipush 76, 2) := by decide +kernel
theorem d_Resolver_resolve_103 : decode prog_4_method_3_code 103 = .ok (.if_icmp .eq 5, 3) := by decide +kernel
theorem d_Resolver_resolve_106 : decode prog_4_method_3_code 106 = .ok (.iconst 0, 1) := by decide +kernel
theorem d_Resolver_resolve_107 : decode prog_4_method_3_code 107 = .ok (.ireturn, 1) := by decide +kernel
theorem d_Resolver_resolve_108 : decode prog_4_method_3_code 108 = .ok (.iload 4, 2) := by decide +kernel
theorem d_Resolver_resolve_110 : decode prog_4_method_3_code 110 = .ok (.tableswitch 237 65 83 #[221, 100, 237, 237, 214, 237, 237, 237, 145, 237, 237, 177, 237, 90, 237, 237, 237, 229, 209], 90) := by decide +kernel
theorem d_Resolver_resolve_200 : decode prog_4_method_3_code 200 = .ok (.aload_n 0, 1) := by decide +kernel
theorem d_Resolver_resolve_201 : decode prog_4_method_3_code 201 = .ok (.getfield 22, 3) := by decide +kernel
theorem d_Resolver_resolve_204 : decode prog_4_method_3_code 204 = .ok (.bipush 78, 2) := by decide +kernel
theorem d_Resolver_resolve_206 : decode prog_4_method_3_code 206 = .ok (.invokevirtual 63, 3) := by decide +kernel
theorem d_Resolver_resolve_209 : decode prog_4_method_3_code 209 = .ok (.ireturn, 1) := by decide +kernel
theorem d_Resolver_resolve_210 : decode prog_4_method_3_code 210 = .ok (.aload_n 0, 1) := by decide +kernel
theorem d_Resolver_resolve_211 : decode prog_4_method_3_code 211 = .ok (.getfield 35, 3) := by decide +kernel
theorem d_Resolver_resolve_214 : decode prog_4_method_3_code 214 = .ok (.invokevirtual 69, 3) := by decide +kernel
theorem d_Resolver_resolve_217 : decode prog_4_method_3_code 217 = .ok (.ifCond .eq 36, 3) := by decide +kernel
theorem d_Resolver_resolve_220 : decode prog_4_method_3_code 220 = .ok (.aload_n 0, 1) := by decide +kernel
theorem d_Resolver_resolve_221 : decode prog_4_method_3_code 221 = .ok (.getfield 22, 3) := by decide +kernel
theorem d_Resolver_resolve_224 : decode prog_4_method_3_code 224 = .ok (.aload_n 0, 1) := by decide +kernel
theorem d_Resolver_resolve_225 : decode prog_4_method_3_code 225 = .ok (.getfield 35, 3) := by decide +kernel
theorem d_Resolver_resolve_228 : decode prog_4_method_3_code 228 = .ok (.invokevirtual 73, 3) := by decide +kernel
theorem d_Resolver_resolve_231 : decode prog_4_method_3_code 231 = .ok (.lconst 1, 1) := by decide +kernel
theorem d_Resolver_resolve_232 : decode prog_4_method_3_code 232 = .ok (.lcmp, 1) := by decide +kernel
theorem d_Resolver_resolve_233 : decode prog_4_method_3_code 233 = .ok (.ifCond .ne 8, 3) := by decide +kernel
theorem d_Resolver_resolve_236 : decode prog_4_method_3_code 236 = .ok (.bipush 84, 2) := by decide +kernel
theorem d_Resolver_resolve_238 : decode prog_4_method_3_code 238 = .ok (.goto 5, 3) := by decide +kernel
theorem d_Resolver_resolve_241 : decode prog_4_method_3_code 241 = .ok (.bipush 70, 2) := by decide +kernel
theorem d_Resolver_resolve_243 : decode prog_4_method_3_code 243 = .ok (.invokevirtual 63, 3) := by decide +kernel
theorem d_Resolver_resolve_246 : decode prog_4_method_3_code 246 = .ok (.ifCond .eq 7, 3) := by decide +kernel
theorem d_Resolver_resolve_249 : decode prog_4_method_3_code 249 = .ok (.iconst 1, 1) := by decide +kernel
theorem d_Resolver_resolve_250 : decode prog_4_method_3_code 250 = .ok (.goto 4, 3) := by decide +kernel
theorem d_Resolver_resolve_253 : decode prog_4_method_3_code 253 = .ok (.iconst 0, 1) := by decide +kernel
theorem d_Resolver_resolve_254 : decode prog_4_method_3_code 254 = .ok (.ireturn, 1) := by decide +kernel
theorem d_Resolver_resolve_255 : decode prog_4_method_3_code 255 = .ok (.aload_n 0, 1) := by decide +kernel
theorem d_Resolver_resolve_256 : decode prog_4_method_3_code 256 = .ok (.getfield 35, 3) := by decide +kernel
theorem d_Resolver_resolve_259 : decode prog_4_method_3_code 259 = .ok (.bipush 32, 2) := by decide +kernel
theorem d_Resolver_resolve_261 : decode prog_4_method_3_code 261 = .ok (.invokevirtual 77, 3) := by decide +kernel
theorem d_Resolver_resolve_264 : decode prog_4_method_3_code 264 = .ok (.ifCond .eq 21, 3) := by decide +kernel
theorem d_Resolver_resolve_267 : decode prog_4_method_3_code 267 = .ok (.aload_n 0, 1) := by decide +kernel
theorem d_Resolver_resolve_268 : decode prog_4_method_3_code 268 = .ok (.aload_n 0, 1) := by decide +kernel
theorem d_Resolver_resolve_269 : decode prog_4_method_3_code 269 = .ok (.getfield 35, 3) := by decide +kernel
theorem d_Resolver_resolve_272 : decode prog_4_method_3_code 272 = .ok (.invokevirtual 73, 3) := by decide +kernel
theorem d_Resolver_resolve_275 : decode prog_4_method_3_code 275 = .ok (.invokevirtual 80, 3) := by decide +kernel
theorem d_Resolver_resolve_278 : decode prog_4_method_3_code 278 = .ok (.ifCond .eq 7, 3) := by decide +kernel
theorem d_Resolver_resolve_281 : decode prog_4_method_3_code 281 = .ok (.iconst 1, 1) := by decide +kernel
theorem d_Resolver_resolve_282 : decode prog_4_method_3_code 282 = .ok (.goto 4, 3) := by decide +kernel
theorem d_Resolver_resolve_285 : decode prog_4_method_3_code 285 = .ok (.iconst 0, 1) := by decide +kernel
theorem d_Resolver_resolve_286 : decode prog_4_method_3_code 286 = .ok (.ireturn, 1) := by decide +kernel
theorem d_Resolver_resolve_287 : decode prog_4_method_3_code 287 = .ok (.aload_n 0, 1) := by decide +kernel
theorem d_Resolver_resolve_288 : decode prog_4_method_3_code 288 = .ok (.getfield 35, 3) := by decide +kernel
theorem d_Resolver_resolve_291 : decode prog_4_method_3_code 291 = .ok (.bipush 64, 2) := by decide +kernel
theorem d_Resolver_resolve_293 : decode prog_4_method_3_code 293 = .ok (.invokevirtual 77, 3) := by decide +kernel
theorem d_Resolver_resolve_296 : decode prog_4_method_3_code 296 = .ok (.ifCond .eq 21, 3) := by decide +kernel
theorem d_Resolver_resolve_299 : decode prog_4_method_3_code 299 = .ok (.aload_n 0, 1) := by decide +kernel
theorem d_Resolver_resolve_300 : decode prog_4_method_3_code 300 = .ok (.aload_n 0, 1) := by decide +kernel
theorem d_Resolver_resolve_301 : decode prog_4_method_3_code 301 = .ok (.getfield 35, 3) := by decide +kernel
theorem d_Resolver_resolve_304 : decode prog_4_method_3_code 304 = .ok (.invokevirtual 73, 3) := by decide +kernel
theorem d_Resolver_resolve_307 : decode prog_4_method_3_code 307 = .ok (.invokevirtual 80, 3) := by decide +kernel
theorem d_Resolver_resolve_310 : decode prog_4_method_3_code 310 = .ok (.ifCond .eq 7, 3) := by decide +kernel
theorem d_Resolver_resolve_313 : decode prog_4_method_3_code 313 = .ok (.iconst 1, 1) := by decide +kernel
theorem d_Resolver_resolve_314 : decode prog_4_method_3_code 314 = .ok (.goto 4, 3) := by decide +kernel
theorem d_Resolver_resolve_317 : decode prog_4_method_3_code 317 = .ok (.iconst 0, 1) := by decide +kernel
theorem d_Resolver_resolve_318 : decode prog_4_method_3_code 318 = .ok (.ireturn, 1) := by decide +kernel
theorem d_Resolver_resolve_319 : decode prog_4_method_3_code 319 = .ok (.aload_n 0, 1) := by decide +kernel
theorem d_Resolver_resolve_320 : decode prog_4_method_3_code 320 = .ok (.invokevirtual 84, 3) := by decide +kernel
theorem d_Resolver_resolve_323 : decode prog_4_method_3_code 323 = .ok (.ireturn, 1) := by decide +kernel
theorem d_Resolver_resolve_324 : decode prog_4_method_3_code 324 = .ok (.aload_n 0, 1) := by decide +kernel
theorem d_Resolver_resolve_325 : decode prog_4_method_3_code 325 = .ok (.iload_n 1, 1) := by decide +kernel
theorem d_Resolver_resolve_326 : decode prog_4_method_3_code 326 = .ok (.iload_n 2, 1) := by decide +kernel
theorem d_Resolver_resolve_327 : decode prog_4_method_3_code 327 = .ok (.invokevirtual 87, 3) := by decide +kernel
theorem d_Resolver_resolve_330 : decode prog_4_method_3_code 330 = .ok (.ireturn, 1) := by decide +kernel
theorem d_Resolver_resolve_331 : decode prog_4_method_3_code 331 = .ok (.aload_n 0, 1) := by decide +kernel
theorem d_Resolver_resolve_332 : decode prog_4_method_3_code 332 = .ok (.iload_n 1, 1) := by decide +kernel
theorem d_Resolver_resolve_333 : decode prog_4_method_3_code 333 = .ok (.iload_n 2, 1) := by decide +kernel
theorem d_Resolver_resolve_334 : decode prog_4_method_3_code 334 = .ok (.iload_n 3, 1) := by decide +kernel
theorem d_Resolver_resolve_335 : decode prog_4_method_3_code 335 = .ok (.invokevirtual 91, 3) := by decide +kernel
theorem d_Resolver_resolve_338 : decode prog_4_method_3_code 338 = .ok (.ireturn, 1) := by decide +kernel
theorem d_Resolver_resolve_339 : decode prog_4_method_3_code 339 = .ok (.aload_n 0, 1) := by decide +kernel
theorem d_Resolver_resolve_340 : decode prog_4_method_3_code 340 = .ok (.iload_n 1, 1) := by decide +kernel
theorem d_Resolver_resolve_341 : decode prog_4_method_3_code 341 = .ok (.iload_n 2, 1) := by decide +kernel
theorem d_Resolver_resolve_342 : decode prog_4_method_3_code 342 = .ok (.iload_n 3, 1) := by decide +kernel
theorem d_Resolver_resolve_343 : decode prog_4_method_3_code 343 = .ok (.invokevirtual 94, 3) := by decide +kernel
theorem d_Resolver_resolve_346 : decode prog_4_method_3_code 346 = .ok (.ireturn, 1) := by decide +kernel
theorem d_Resolver_resolve_347 : decode prog_4_method_3_code 347 = .ok (.iconst 0, 1) := by decide +kernel
theorem d_Resolver_resolve_348 : decode prog_4_method_3_code 348 = .ok (.ireturn, 1) := by decide +kernel
def Resolver_resolve_jn243 (call : ax_Cf)  (s0 : Int32) (s1 : Option Nat) (h : ax_Hp) : ax_O :=
  ax_on h s1 2 <| ax_ci (call 8 [ax_A s1, ax_I s0] h) fun v17 h16 =>
  if v17 = 0 then
    ax_rz 0 h16
  else
    ax_rz 1 h16
set_option maxHeartbeats 4000000 in
set_option maxRecDepth 20000 in
theorem Resolver_resolve_jq243 {l : Launch} {G : ax_G} {d : Nat} {call : ax_Cf} (hcall : ax_Hc l G d call) {p : Program} {e : Env} {s : State} {mi : MethodId} {args : Array Value} {below : List Frame} {meth : Method} {c : Code} {h0 : ax_Hp} (B : ax_B G p s mi meth c "SchemaDesk$Resolver" prog_4_method_3_code 6 (some (.boolean))) (E : c.exceptionTable.isEmpty = true) (Nm : meth.name = y_Resolver_resolve.name)   (s0 : Int32) (s1 : Option Nat) (h : ax_Hp) : ax_W G p l e s mi args below meth c 6 (d + 1) h0 243 [] [ax_I s0, ax_A s1] h (Resolver_resolve_jn243 call  s0 s1 h) := by
  unfold Resolver_resolve_jn243
  refine ax_callVi (av := [ax_I s0]) (rest := []) B E hm_Row_add cl_Row rfl wd_123 wd_124 lk_Resolver_63 d_Resolver_resolve_243 rfl (Nat.le_of_ble_eq_true rfl) (fun _ _ hh => hcall 8 _ _ _ _ hh) (fun v17 h16 => ?_)
  refine ax_if_eq B 253 d_Resolver_resolve_246 (by decide) ?_ ?_
  · refine ax_iconst (v := 0) B d_Resolver_resolve_253 (by decide) ?_
    exact ax_zreturn B d_Resolver_resolve_254
  · refine ax_iconst (v := 1) B d_Resolver_resolve_249 (by decide) ?_
    refine ax_goto B 254 d_Resolver_resolve_250 (by decide) ?_
    exact ax_zreturn B d_Resolver_resolve_254
def Resolver_resolve_jn108 (call : ax_Cf)  (x0 : Option Nat) (x1 : Int32) (x2 : Int32) (x3 : Int32) (x4 : Int32) (h : ax_Hp) : ax_O :=
  if x4.toInt = 65 then
    ax_on h x0 1 <| ax_ci (call 134 [ax_A x0, ax_I x1, ax_I x2, ax_I x3] h) fun v8 h7 =>
    ax_rz v8 h7
  else
  if x4.toInt = 66 then
    (ax_gr h x0 1 1).bind fun v9 =>
    ax_on h v9 5 <| ax_ci (call 112 [ax_A v9] h) fun v11 h10 =>
    if v11 = 0 then
      ax_rz 0 h10
    else
      (ax_gr h10 x0 1 4).bind fun v12 =>
      (ax_gr h10 x0 1 1).bind fun v13 =>
      ax_on h10 v13 5 <| ax_cl (call 129 [ax_A v13] h10) fun v15 h14 =>
      if (lg_cmp v15 1) = 0 then
        Resolver_resolve_jn243 call 84 v12 h14
      else
        Resolver_resolve_jn243 call 70 v12 h14
  else
  if x4.toInt = 67 then
    ax_rz 0 h
  else
  if x4.toInt = 68 then
    ax_rz 0 h
  else
  if x4.toInt = 69 then
    ax_on h x0 1 <| ax_ci (call 133 [ax_A x0, ax_I x1, ax_I x2] h) fun v19 h18 =>
    ax_rz v19 h18
  else
  if x4.toInt = 70 then
    ax_rz 0 h
  else
  if x4.toInt = 71 then
    ax_rz 0 h
  else
  if x4.toInt = 72 then
    ax_rz 0 h
  else
  if x4.toInt = 73 then
    (ax_gr h x0 1 1).bind fun v20 =>
    ax_on h v20 5 <| ax_ci (call 113 [ax_A v20, ax_I 32] h) fun v22 h21 =>
    if v22 = 0 then
      ax_rz 0 h21
    else
      (ax_gr h21 x0 1 1).bind fun v23 =>
      ax_on h21 v23 5 <| ax_cl (call 129 [ax_A v23] h21) fun v25 h24 =>
      ax_on h24 x0 1 <| ax_ci (call 130 [ax_A x0, ax_L v25] h24) fun v27 h26 =>
      if v27 = 0 then
        ax_rz 0 h26
      else
        ax_rz 1 h26
  else
  if x4.toInt = 74 then
    ax_rz 0 h
  else
  if x4.toInt = 75 then
    ax_rz 0 h
  else
  if x4.toInt = 76 then
    (ax_gr h x0 1 1).bind fun v28 =>
    ax_on h v28 5 <| ax_ci (call 113 [ax_A v28, ax_I 64] h) fun v30 h29 =>
    if v30 = 0 then
      ax_rz 0 h29
    else
      (ax_gr h29 x0 1 1).bind fun v31 =>
      ax_on h29 v31 5 <| ax_cl (call 129 [ax_A v31] h29) fun v33 h32 =>
      ax_on h32 x0 1 <| ax_ci (call 130 [ax_A x0, ax_L v33] h32) fun v35 h34 =>
      if v35 = 0 then
        ax_rz 0 h34
      else
        ax_rz 1 h34
  else
  if x4.toInt = 77 then
    ax_rz 0 h
  else
  if x4.toInt = 78 then
    (ax_gr h x0 1 4).bind fun v36 =>
    ax_on h v36 2 <| ax_ci (call 8 [ax_A v36, ax_I 78] h) fun v38 h37 =>
    ax_rz v38 h37
  else
  if x4.toInt = 79 then
    ax_rz 0 h
  else
  if x4.toInt = 80 then
    ax_rz 0 h
  else
  if x4.toInt = 81 then
    ax_rz 0 h
  else
  if x4.toInt = 82 then
    ax_on h x0 1 <| ax_ci (call 135 [ax_A x0, ax_I x1, ax_I x2, ax_I x3] h) fun v40 h39 =>
    ax_rz v40 h39
  else
  if x4.toInt = 83 then
    ax_on h x0 1 <| ax_ci (call 132 [ax_A x0] h) fun v42 h41 =>
    ax_rz v42 h41
  else
  ax_rz 0 h
set_option maxHeartbeats 4000000 in
set_option maxRecDepth 20000 in
theorem Resolver_resolve_jq108 {l : Launch} {G : ax_G} {d : Nat} {call : ax_Cf} (hcall : ax_Hc l G d call) {p : Program} {e : Env} {s : State} {mi : MethodId} {args : Array Value} {below : List Frame} {meth : Method} {c : Code} {h0 : ax_Hp} (B : ax_B G p s mi meth c "SchemaDesk$Resolver" prog_4_method_3_code 6 (some (.boolean))) (E : c.exceptionTable.isEmpty = true) (Nm : meth.name = y_Resolver_resolve.name)   (x0 : Option Nat) (x1 : Int32) (x2 : Int32) (x3 : Int32) (x4 : Int32) (h : ax_Hp) : ax_W G p l e s mi args below meth c 6 (d + 1) h0 108 [(0, ax_A x0), (1, ax_I x1), (2, ax_I x2), (3, ax_I x3), (4, ax_I x4)] [] h (Resolver_resolve_jn108 call  x0 x1 x2 x3 x4 h) := by
  unfold Resolver_resolve_jn108
  refine ax_iload B 4 d_Resolver_resolve_108 rfl ?_
  refine ax_table B d_Resolver_resolve_110 (by decide) ?_
  refine ⟨_, _, rfl, ⟨331, by decide, ?_⟩, ?_⟩
  · refine ax_aload_n B 0 d_Resolver_resolve_331 rfl rfl ?_
    refine ax_iload_n B 1 d_Resolver_resolve_332 rfl rfl ?_
    refine ax_iload_n B 2 d_Resolver_resolve_333 rfl rfl ?_
    refine ax_iload_n B 3 d_Resolver_resolve_334 rfl rfl ?_
    refine ax_callVi (av := [ax_I x1, ax_I x2, ax_I x3]) (rest := []) B E hm_Resolver_resolveElements cl_Resolver rfl wd_832 wp_33 lk_Resolver_91 d_Resolver_resolve_335 rfl (Nat.le_of_ble_eq_true rfl) (fun _ _ hh => hcall 134 _ _ _ _ hh) (fun v8 h7 => ?_)
    exact ax_zreturn B d_Resolver_resolve_338
  refine ⟨_, _, rfl, ⟨210, by decide, ?_⟩, ?_⟩
  · refine ax_aload_n B 0 d_Resolver_resolve_210 rfl rfl ?_
    refine ax_getfr B cl_Resolver (by decide) fk_Resolver_35 d_Resolver_resolve_211 (fun v9 => ?_)
    refine ax_callVi (av := []) (rest := []) B E hm_StreamReader_readBoolean cl_StreamReader rfl wd_696 wd_697 lk_Resolver_69 d_Resolver_resolve_214 rfl (Nat.le_of_ble_eq_true rfl) (fun _ _ hh => hcall 112 _ _ _ _ hh) (fun v11 h10 => ?_)
    refine ax_if_eq B 253 d_Resolver_resolve_217 (by decide) ?_ ?_
    · refine ax_iconst (v := 0) B d_Resolver_resolve_253 (by decide) ?_
      exact ax_zreturn B d_Resolver_resolve_254
    · refine ax_aload_n B 0 d_Resolver_resolve_220 rfl rfl ?_
      refine ax_getfr B cl_Resolver (by decide) fk_Resolver_22 d_Resolver_resolve_221 (fun v12 => ?_)
      refine ax_aload_n B 0 d_Resolver_resolve_224 rfl rfl ?_
      refine ax_getfr B cl_Resolver (by decide) fk_Resolver_35 d_Resolver_resolve_225 (fun v13 => ?_)
      refine ax_callVl (av := []) (rest := [ax_A v12]) B E hm_StreamReader_number cl_StreamReader rfl wd_803 wd_804 lk_Resolver_73 d_Resolver_resolve_228 rfl (Nat.le_of_ble_eq_true rfl) (fun _ _ hh => hcall 129 _ _ _ _ hh) (fun v15 h14 => ?_)
      refine ax_lconst (v := 1) B d_Resolver_resolve_231 (by decide) ?_
      refine ax_lcmp B d_Resolver_resolve_232 ?_
      refine ax_if_ne B 241 d_Resolver_resolve_233 (by decide) ?_ ?_
      · refine ax_bipush (v := 70) B d_Resolver_resolve_241 (by decide) ?_
        refine ax_sub (tv2 := []) [] rfl ?_
        exact Resolver_resolve_jq243 hcall B E Nm 70 v12 h14
      · refine ax_bipush (v := 84) B d_Resolver_resolve_236 (by decide) ?_
        refine ax_goto B 243 d_Resolver_resolve_238 (by decide) ?_
        refine ax_sub (tv2 := []) [] rfl ?_
        exact Resolver_resolve_jq243 hcall B E Nm 84 v12 h14
  refine ⟨_, _, rfl, ⟨347, by decide, ?_⟩, ?_⟩
  · refine ax_iconst (v := 0) B d_Resolver_resolve_347 (by decide) ?_
    exact ax_zreturn B d_Resolver_resolve_348
  refine ⟨_, _, rfl, ⟨347, by decide, ?_⟩, ?_⟩
  · refine ax_iconst (v := 0) B d_Resolver_resolve_347 (by decide) ?_
    exact ax_zreturn B d_Resolver_resolve_348
  refine ⟨_, _, rfl, ⟨324, by decide, ?_⟩, ?_⟩
  · refine ax_aload_n B 0 d_Resolver_resolve_324 rfl rfl ?_
    refine ax_iload_n B 1 d_Resolver_resolve_325 rfl rfl ?_
    refine ax_iload_n B 2 d_Resolver_resolve_326 rfl rfl ?_
    refine ax_callVi (av := [ax_I x1, ax_I x2]) (rest := []) B E hm_Resolver_resolveSymbol cl_Resolver rfl wd_825 wp_32 lk_Resolver_87 d_Resolver_resolve_327 rfl (Nat.le_of_ble_eq_true rfl) (fun _ _ hh => hcall 133 _ _ _ _ hh) (fun v19 h18 => ?_)
    exact ax_zreturn B d_Resolver_resolve_330
  refine ⟨_, _, rfl, ⟨347, by decide, ?_⟩, ?_⟩
  · refine ax_iconst (v := 0) B d_Resolver_resolve_347 (by decide) ?_
    exact ax_zreturn B d_Resolver_resolve_348
  refine ⟨_, _, rfl, ⟨347, by decide, ?_⟩, ?_⟩
  · refine ax_iconst (v := 0) B d_Resolver_resolve_347 (by decide) ?_
    exact ax_zreturn B d_Resolver_resolve_348
  refine ⟨_, _, rfl, ⟨347, by decide, ?_⟩, ?_⟩
  · refine ax_iconst (v := 0) B d_Resolver_resolve_347 (by decide) ?_
    exact ax_zreturn B d_Resolver_resolve_348
  refine ⟨_, _, rfl, ⟨255, by decide, ?_⟩, ?_⟩
  · refine ax_aload_n B 0 d_Resolver_resolve_255 rfl rfl ?_
    refine ax_getfr B cl_Resolver (by decide) fk_Resolver_35 d_Resolver_resolve_256 (fun v20 => ?_)
    refine ax_bipush (v := 32) B d_Resolver_resolve_259 (by decide) ?_
    refine ax_callVi (av := [ax_I 32]) (rest := []) B E hm_StreamReader_readNumber cl_StreamReader rfl wd_702 wd_703 lk_Resolver_77 d_Resolver_resolve_261 rfl (Nat.le_of_ble_eq_true rfl) (fun _ _ hh => hcall 113 _ _ _ _ hh) (fun v22 h21 => ?_)
    refine ax_if_eq B 285 d_Resolver_resolve_264 (by decide) ?_ ?_
    · refine ax_iconst (v := 0) B d_Resolver_resolve_285 (by decide) ?_
      exact ax_zreturn B d_Resolver_resolve_286
    · refine ax_aload_n B 0 d_Resolver_resolve_267 rfl rfl ?_
      refine ax_aload_n B 0 d_Resolver_resolve_268 rfl rfl ?_
      refine ax_getfr B cl_Resolver (by decide) fk_Resolver_35 d_Resolver_resolve_269 (fun v23 => ?_)
      refine ax_callVl (av := []) (rest := [ax_A x0]) B E hm_StreamReader_number cl_StreamReader rfl wd_803 wd_804 lk_Resolver_73 d_Resolver_resolve_272 rfl (Nat.le_of_ble_eq_true rfl) (fun _ _ hh => hcall 129 _ _ _ _ hh) (fun v25 h24 => ?_)
      refine ax_callVi (av := [ax_L v25]) (rest := []) B E hm_Resolver_addNumber cl_Resolver rfl wd_809 wp_30 lk_Resolver_80 d_Resolver_resolve_275 rfl (Nat.le_of_ble_eq_true rfl) (fun _ _ hh => hcall 130 _ _ _ _ hh) (fun v27 h26 => ?_)
      refine ax_if_eq B 285 d_Resolver_resolve_278 (by decide) ?_ ?_
      · refine ax_iconst (v := 0) B d_Resolver_resolve_285 (by decide) ?_
        exact ax_zreturn B d_Resolver_resolve_286
      · refine ax_iconst (v := 1) B d_Resolver_resolve_281 (by decide) ?_
        refine ax_goto B 286 d_Resolver_resolve_282 (by decide) ?_
        exact ax_zreturn B d_Resolver_resolve_286
  refine ⟨_, _, rfl, ⟨347, by decide, ?_⟩, ?_⟩
  · refine ax_iconst (v := 0) B d_Resolver_resolve_347 (by decide) ?_
    exact ax_zreturn B d_Resolver_resolve_348
  refine ⟨_, _, rfl, ⟨347, by decide, ?_⟩, ?_⟩
  · refine ax_iconst (v := 0) B d_Resolver_resolve_347 (by decide) ?_
    exact ax_zreturn B d_Resolver_resolve_348
  refine ⟨_, _, rfl, ⟨287, by decide, ?_⟩, ?_⟩
  · refine ax_aload_n B 0 d_Resolver_resolve_287 rfl rfl ?_
    refine ax_getfr B cl_Resolver (by decide) fk_Resolver_35 d_Resolver_resolve_288 (fun v28 => ?_)
    refine ax_bipush (v := 64) B d_Resolver_resolve_291 (by decide) ?_
    refine ax_callVi (av := [ax_I 64]) (rest := []) B E hm_StreamReader_readNumber cl_StreamReader rfl wd_702 wd_703 lk_Resolver_77 d_Resolver_resolve_293 rfl (Nat.le_of_ble_eq_true rfl) (fun _ _ hh => hcall 113 _ _ _ _ hh) (fun v30 h29 => ?_)
    refine ax_if_eq B 317 d_Resolver_resolve_296 (by decide) ?_ ?_
    · refine ax_iconst (v := 0) B d_Resolver_resolve_317 (by decide) ?_
      exact ax_zreturn B d_Resolver_resolve_318
    · refine ax_aload_n B 0 d_Resolver_resolve_299 rfl rfl ?_
      refine ax_aload_n B 0 d_Resolver_resolve_300 rfl rfl ?_
      refine ax_getfr B cl_Resolver (by decide) fk_Resolver_35 d_Resolver_resolve_301 (fun v31 => ?_)
      refine ax_callVl (av := []) (rest := [ax_A x0]) B E hm_StreamReader_number cl_StreamReader rfl wd_803 wd_804 lk_Resolver_73 d_Resolver_resolve_304 rfl (Nat.le_of_ble_eq_true rfl) (fun _ _ hh => hcall 129 _ _ _ _ hh) (fun v33 h32 => ?_)
      refine ax_callVi (av := [ax_L v33]) (rest := []) B E hm_Resolver_addNumber cl_Resolver rfl wd_809 wp_30 lk_Resolver_80 d_Resolver_resolve_307 rfl (Nat.le_of_ble_eq_true rfl) (fun _ _ hh => hcall 130 _ _ _ _ hh) (fun v35 h34 => ?_)
      refine ax_if_eq B 317 d_Resolver_resolve_310 (by decide) ?_ ?_
      · refine ax_iconst (v := 0) B d_Resolver_resolve_317 (by decide) ?_
        exact ax_zreturn B d_Resolver_resolve_318
      · refine ax_iconst (v := 1) B d_Resolver_resolve_313 (by decide) ?_
        refine ax_goto B 318 d_Resolver_resolve_314 (by decide) ?_
        exact ax_zreturn B d_Resolver_resolve_318
  refine ⟨_, _, rfl, ⟨347, by decide, ?_⟩, ?_⟩
  · refine ax_iconst (v := 0) B d_Resolver_resolve_347 (by decide) ?_
    exact ax_zreturn B d_Resolver_resolve_348
  refine ⟨_, _, rfl, ⟨200, by decide, ?_⟩, ?_⟩
  · refine ax_aload_n B 0 d_Resolver_resolve_200 rfl rfl ?_
    refine ax_getfr B cl_Resolver (by decide) fk_Resolver_22 d_Resolver_resolve_201 (fun v36 => ?_)
    refine ax_bipush (v := 78) B d_Resolver_resolve_204 (by decide) ?_
    refine ax_callVi (av := [ax_I 78]) (rest := []) B E hm_Row_add cl_Row rfl wd_123 wd_124 lk_Resolver_63 d_Resolver_resolve_206 rfl (Nat.le_of_ble_eq_true rfl) (fun _ _ hh => hcall 8 _ _ _ _ hh) (fun v38 h37 => ?_)
    exact ax_zreturn B d_Resolver_resolve_209
  refine ⟨_, _, rfl, ⟨347, by decide, ?_⟩, ?_⟩
  · refine ax_iconst (v := 0) B d_Resolver_resolve_347 (by decide) ?_
    exact ax_zreturn B d_Resolver_resolve_348
  refine ⟨_, _, rfl, ⟨347, by decide, ?_⟩, ?_⟩
  · refine ax_iconst (v := 0) B d_Resolver_resolve_347 (by decide) ?_
    exact ax_zreturn B d_Resolver_resolve_348
  refine ⟨_, _, rfl, ⟨347, by decide, ?_⟩, ?_⟩
  · refine ax_iconst (v := 0) B d_Resolver_resolve_347 (by decide) ?_
    exact ax_zreturn B d_Resolver_resolve_348
  refine ⟨_, _, rfl, ⟨339, by decide, ?_⟩, ?_⟩
  · refine ax_aload_n B 0 d_Resolver_resolve_339 rfl rfl ?_
    refine ax_iload_n B 1 d_Resolver_resolve_340 rfl rfl ?_
    refine ax_iload_n B 2 d_Resolver_resolve_341 rfl rfl ?_
    refine ax_iload_n B 3 d_Resolver_resolve_342 rfl rfl ?_
    refine ax_callVi (av := [ax_I x1, ax_I x2, ax_I x3]) (rest := []) B E hm_Resolver_resolveFields cl_Resolver rfl wd_837 wp_34 lk_Resolver_94 d_Resolver_resolve_343 rfl (Nat.le_of_ble_eq_true rfl) (fun _ _ hh => hcall 135 _ _ _ _ hh) (fun v40 h39 => ?_)
    exact ax_zreturn B d_Resolver_resolve_346
  refine ⟨_, _, rfl, ⟨319, by decide, ?_⟩, ?_⟩
  · refine ax_aload_n B 0 d_Resolver_resolve_319 rfl rfl ?_
    refine ax_callVi (av := []) (rest := []) B E hm_Resolver_resolveString cl_Resolver rfl wd_819 wp_31 lk_Resolver_84 d_Resolver_resolve_320 rfl (Nat.le_of_ble_eq_true rfl) (fun _ _ hh => hcall 132 _ _ _ _ hh) (fun v42 h41 => ?_)
    exact ax_zreturn B d_Resolver_resolve_323
  refine ⟨347, by decide, ?_⟩
  refine ax_iconst (v := 0) B d_Resolver_resolve_347 (by decide) ?_
  exact ax_zreturn B d_Resolver_resolve_348
def Resolver_resolve_b (call : ax_Cf) (x0 : Option Nat) (x1 : Int32) (x2 : Int32) (x3 : Int32) (h : ax_Hp) : ax_O :=
  if x3 ≤ 12 then
    (ax_gr h x0 1 2).bind fun v1 =>
    ax_on h v1 3 <| ax_ci (call 44 [ax_A v1, ax_I x1] h) fun v3 h2 =>
    if v3 = 85 then
      (ax_gr h2 x0 1 1).bind fun v45 =>
      ax_on h2 v45 5 <| ax_ci (call 120 [ax_A v45, ax_I x1] h2) fun v47 h46 =>
      if v47 = (-1) then
        ax_rz 0 h46
      else
        ax_on h46 x0 1 <| ax_ci (call 126 [ax_A x0, ax_I v47, ax_I x2, ax_I (x3 + 1)] h46) fun v49 h48 =>
        if v49 = 0 then
          ax_rz 0 h48
        else
          ax_rz 1 h48
    else
      (ax_gr h2 x0 1 3).bind fun v4 =>
      ax_on h2 v4 3 <| ax_ci (call 44 [ax_A v4, ax_I x2] h2) fun v6 h5 =>
      if v6 = 85 then
        ax_on h5 x0 1 <| ax_ci (call 127 [ax_A x0, ax_I x1, ax_I x2, ax_I x3] h5) fun v44 h43 =>
        ax_rz v44 h43
      else
        if v6 = v3 then
          Resolver_resolve_jn108 call x0 x1 x2 x3 v3 h5
        else
          if v3 = 73 then
            if v6 = 76 then
              Resolver_resolve_jn108 call x0 x1 x2 x3 v3 h5
            else
              ax_rz 0 h5
          else
            ax_rz 0 h5
  else
    ax_rz 0 h
set_option maxHeartbeats 4000000 in
set_option maxRecDepth 20000 in
theorem Resolver_resolve_t {l : Launch} {G : ax_G} {d : Nat} {call : ax_Cf} (hcall : ax_Hc l G d call) (x0 : Option Nat) (x1 : Int32) (x2 : Int32) (x3 : Int32) (h : ax_Hp) {r : ax_Rs} {h' : ax_Hp} (ho : Resolver_resolve_b call x0 x1 x2 x3 h = some (r, h')) : ax_C l G (d + 1) y_Resolver_resolve (.code y_Resolver_resolve prog_4_method_3_code 6 (some (.boolean))) [ax_A x0, ax_I x1, ax_I x2, ax_I x3] h r h' := by
  refine ax_enter (by decide) (Nat.le_of_ble_eq_true rfl) ho (fun p e s mi args below meth c B E Nm => ?_)
  have B : ax_B G p s mi meth c "SchemaDesk$Resolver" prog_4_method_3_code 6 (some (.boolean)) := B
  show ax_W G p l e s mi args below meth c 6 (d + 1) h 0 [(0, ax_A x0), (1, ax_I x1), (2, ax_I x2), (3, ax_I x3)] [] h (Resolver_resolve_b call x0 x1 x2 x3 h)
  unfold Resolver_resolve_b
  refine ax_iload_n B 3 d_Resolver_resolve_0 rfl rfl ?_
  refine ax_bipush (v := 12) B d_Resolver_resolve_1 (by decide) ?_
  refine ax_icmp_le B 8 d_Resolver_resolve_3 (by decide) ?_ ?_
  · refine ax_aload_n B 0 d_Resolver_resolve_8 rfl rfl ?_
    refine ax_getfr B cl_Resolver (by decide) fk_Resolver_15 d_Resolver_resolve_9 (fun v1 => ?_)
    refine ax_iload_n B 1 d_Resolver_resolve_12 rfl rfl ?_
    refine ax_callVi (av := [ax_I x1]) (rest := []) B E hm_Schema_kind cl_Schema rfl wd_367 wd_368 lk_Resolver_51 d_Resolver_resolve_13 rfl (Nat.le_of_ble_eq_true rfl) (fun _ _ hh => hcall 44 _ _ _ _ hh) (fun v3 h2 => ?_)
    refine ax_istore (tv2 := [(4, ax_I v3), (0, ax_A x0), (1, ax_I x1), (2, ax_I x2), (3, ax_I x3)]) B d_Resolver_resolve_16 (by decide) rfl ?_
    refine ax_iload B 0 d_Resolver_resolve_18 rfl ?_
    refine ax_bipush (v := 85) B d_Resolver_resolve_20 (by decide) ?_
    refine ax_icmp_ne B 60 d_Resolver_resolve_22 (by decide) ?_ ?_
    · refine ax_aload_n B 1 d_Resolver_resolve_60 rfl rfl ?_
      refine ax_getfr B cl_Resolver (by decide) fk_Resolver_19 d_Resolver_resolve_61 (fun v4 => ?_)
      refine ax_iload_n B 3 d_Resolver_resolve_64 rfl rfl ?_
      refine ax_callVi (av := [ax_I x2]) (rest := []) B E hm_Schema_kind cl_Schema rfl wd_367 wd_368 lk_Resolver_51 d_Resolver_resolve_65 rfl (Nat.le_of_ble_eq_true rfl) (fun _ _ hh => hcall 44 _ _ _ _ hh) (fun v6 h5 => ?_)
      refine ax_istore (tv2 := [(5, ax_I v6), (4, ax_I v3), (0, ax_A x0), (1, ax_I x1), (2, ax_I x2), (3, ax_I x3)]) B d_Resolver_resolve_68 (by decide) rfl ?_
      refine ax_iload B 0 d_Resolver_resolve_70 rfl ?_
      refine ax_bipush (v := 85) B d_Resolver_resolve_72 (by decide) ?_
      refine ax_icmp_ne B 85 d_Resolver_resolve_74 (by decide) ?_ ?_
      · refine ax_iload B 0 d_Resolver_resolve_85 rfl ?_
        refine ax_iload B 1 d_Resolver_resolve_87 rfl ?_
        refine ax_icmp_eq B 108 d_Resolver_resolve_89 (by decide) ?_ ?_
        · refine ax_sub (tv2 := [(0, ax_A x0), (1, ax_I x1), (2, ax_I x2), (3, ax_I x3), (4, ax_I v3)]) [2, 3, 4, 5, 1] rfl ?_
          exact Resolver_resolve_jq108 hcall B E Nm x0 x1 x2 x3 v3 h5
        · refine ax_iload B 1 d_Resolver_resolve_92 rfl ?_
          refine ax_bipush (v := 73) B d_Resolver_resolve_94 (by decide) ?_
          refine ax_icmp_ne B 106 d_Resolver_resolve_96 (by decide) ?_ ?_
          · refine ax_iconst (v := 0) B d_Resolver_resolve_106 (by decide) ?_
            exact ax_zreturn B d_Resolver_resolve_107
          · refine ax_iload B 0 d_Resolver_resolve_99 rfl ?_
            refine ax_bipush (v := 76) B d_Resolver_resolve_101 (by decide) ?_
            refine ax_icmp_eq B 108 d_Resolver_resolve_103 (by decide) ?_ ?_
            · refine ax_sub (tv2 := [(0, ax_A x0), (1, ax_I x1), (2, ax_I x2), (3, ax_I x3), (4, ax_I v3)]) [2, 3, 4, 5, 1] rfl ?_
              exact Resolver_resolve_jq108 hcall B E Nm x0 x1 x2 x3 v3 h5
            · refine ax_iconst (v := 0) B d_Resolver_resolve_106 (by decide) ?_
              exact ax_zreturn B d_Resolver_resolve_107
      · refine ax_aload_n B 2 d_Resolver_resolve_77 rfl rfl ?_
        refine ax_iload_n B 3 d_Resolver_resolve_78 rfl rfl ?_
        refine ax_iload_n B 4 d_Resolver_resolve_79 rfl rfl ?_
        refine ax_iload_n B 5 d_Resolver_resolve_80 rfl rfl ?_
        refine ax_callVi (av := [ax_I x1, ax_I x2, ax_I x3]) (rest := []) B E hm_Resolver_resolveAsBranch cl_Resolver rfl wd_794 wp_29 lk_Resolver_60 d_Resolver_resolve_81 rfl (Nat.le_of_ble_eq_true rfl) (fun _ _ hh => hcall 127 _ _ _ _ hh) (fun v44 h43 => ?_)
        exact ax_zreturn B d_Resolver_resolve_84
    · refine ax_aload_n B 1 d_Resolver_resolve_25 rfl rfl ?_
      refine ax_getfr B cl_Resolver (by decide) fk_Resolver_35 d_Resolver_resolve_26 (fun v45 => ?_)
      refine ax_iload_n B 2 d_Resolver_resolve_29 rfl rfl ?_
      refine ax_callVi (av := [ax_I x1]) (rest := []) B E hm_StreamReader_readBranch cl_StreamReader rfl wd_736 wd_737 lk_Resolver_57 d_Resolver_resolve_30 rfl (Nat.le_of_ble_eq_true rfl) (fun _ _ hh => hcall 120 _ _ _ _ hh) (fun v47 h46 => ?_)
      refine ax_istore (tv2 := [(5, ax_I v47), (4, ax_I v3), (0, ax_A x0), (1, ax_I x1), (2, ax_I x2), (3, ax_I x3)]) B d_Resolver_resolve_33 (by decide) rfl ?_
      refine ax_iload B 0 d_Resolver_resolve_35 rfl ?_
      refine ax_iconst (v := (-1)) B d_Resolver_resolve_37 (by decide) ?_
      refine ax_icmp_eq B 58 d_Resolver_resolve_38 (by decide) ?_ ?_
      · refine ax_iconst (v := 0) B d_Resolver_resolve_58 (by decide) ?_
        exact ax_zreturn B d_Resolver_resolve_59
      · refine ax_aload_n B 2 d_Resolver_resolve_41 rfl rfl ?_
        refine ax_iload B 0 d_Resolver_resolve_42 rfl ?_
        refine ax_iload_n B 4 d_Resolver_resolve_44 rfl rfl ?_
        refine ax_iload_n B 5 d_Resolver_resolve_45 rfl rfl ?_
        refine ax_iconst (v := 1) B d_Resolver_resolve_46 (by decide) ?_
        refine ax_iadd B d_Resolver_resolve_47 ?_
        refine ax_callVi (av := [ax_I v47, ax_I x2, ax_I (x3 + 1)]) (rest := []) B E hm_Resolver_resolve cl_Resolver rfl wd_788 wp_28 lk_Resolver_45 d_Resolver_resolve_48 rfl (Nat.le_of_ble_eq_true rfl) (fun _ _ hh => hcall 126 _ _ _ _ hh) (fun v49 h48 => ?_)
        refine ax_if_eq B 58 d_Resolver_resolve_51 (by decide) ?_ ?_
        · refine ax_iconst (v := 0) B d_Resolver_resolve_58 (by decide) ?_
          exact ax_zreturn B d_Resolver_resolve_59
        · refine ax_iconst (v := 1) B d_Resolver_resolve_54 (by decide) ?_
          refine ax_goto B 59 d_Resolver_resolve_55 (by decide) ?_
          exact ax_zreturn B d_Resolver_resolve_59
  · refine ax_iconst (v := 0) B d_Resolver_resolve_6 (by decide) ?_
    exact ax_zreturn B d_Resolver_resolve_7

theorem d_Resolver_resolveAsBranch_0 : decode prog_4_method_4_code 0 = .ok (.aload_n 0, 1) := by decide +kernel
theorem d_Resolver_resolveAsBranch_1 : decode prog_4_method_4_code 1 = .ok (.getfield 19, 3) := by decide +kernel
theorem d_Resolver_resolveAsBranch_4 : decode prog_4_method_4_code 4 = .ok (.iload_n 2, 1) := by decide +kernel
theorem d_Resolver_resolveAsBranch_5 : decode prog_4_method_4_code 5 = .ok (.aload_n 0, 1) := by decide +kernel
theorem d_Resolver_resolveAsBranch_6 : decode prog_4_method_4_code 6 = .ok (.getfield 15, 3) := by decide +kernel
theorem d_Resolver_resolveAsBranch_9 : decode prog_4_method_4_code 9 = .ok (.iload_n 1, 1) := by decide +kernel
theorem d_Resolver_resolveAsBranch_10 : decode prog_4_method_4_code 10 = .ok (.invokestatic 97, 3) := by decide +kernel
theorem d_Resolver_resolveAsBranch_13 : decode prog_4_method_4_code 13 = .ok (.istore 4, 2) := by decide +kernel
theorem d_Resolver_resolveAsBranch_15 : decode prog_4_method_4_code 15 = .ok (.iload 4, 2) := by decide +kernel
theorem d_Resolver_resolveAsBranch_17 : decode prog_4_method_4_code 17 = .ok (.iconst (-1), 1) := by decide +kernel
theorem d_Resolver_resolveAsBranch_18 : decode prog_4_method_4_code 18 = .ok (.if_icmp .eq 55, 3) := by decide +kernel
theorem d_Resolver_resolveAsBranch_21 : decode prog_4_method_4_code 21 = .ok (.aload_n 0, 1) := by decide +kernel
theorem d_Resolver_resolveAsBranch_22 : decode prog_4_method_4_code 22 = .ok (.getfield 22, 3) := by decide +kernel
theorem d_Resolver_resolveAsBranch_25 : decode prog_4_method_4_code 25 = .ok (.bipush 48, 2) := by decide +kernel
theorem d_Resolver_resolveAsBranch_27 : decode prog_4_method_4_code 27 = .ok (.iload 4, 2) := by decide +kernel
theorem d_Resolver_resolveAsBranch_29 : decode prog_4_method_4_code 29 = .ok (.iadd, 1) := by decide +kernel
theorem d_Resolver_resolveAsBranch_30 : decode prog_4_method_4_code 30 = .ok (.invokevirtual 63, 3) := by decide +kernel
theorem d_Resolver_resolveAsBranch_33 : decode prog_4_method_4_code 33 = .ok (.ifCond .eq 40, 3) := by decide +kernel
theorem d_Resolver_resolveAsBranch_36 : decode prog_4_method_4_code 36 = .ok (.aload_n 0, 1) := by decide +kernel
theorem d_Resolver_resolveAsBranch_37 : decode prog_4_method_4_code 37 = .ok (.getfield 22, 3) := by decide +kernel
theorem d_Resolver_resolveAsBranch_40 : decode prog_4_method_4_code 40 = .ok (.bipush 58, 2) := by decide +kernel
theorem d_Resolver_resolveAsBranch_42 : decode prog_4_method_4_code 42 = .ok (.invokevirtual 63, 3) := by decide +kernel
theorem d_Resolver_resolveAsBranch_45 : decode prog_4_method_4_code 45 = .ok (.ifCond .eq 28, 3) := by decide +kernel
theorem d_Resolver_resolveAsBranch_48 : decode prog_4_method_4_code 48 = .ok (.aload_n 0, 1) := by decide +kernel
theorem d_Resolver_resolveAsBranch_49 : decode prog_4_method_4_code 49 = .ok (.iload_n 1, 1) := by decide +kernel
theorem d_Resolver_resolveAsBranch_50 : decode prog_4_method_4_code 50 = .ok (.aload_n 0, 1) := by decide +kernel
theorem d_Resolver_resolveAsBranch_51 : decode prog_4_method_4_code 51 = .ok (.getfield 19, 3) := by decide +kernel
theorem d_Resolver_resolveAsBranch_54 : decode prog_4_method_4_code 54 = .ok (.iload_n 2, 1) := by decide +kernel
theorem d_Resolver_resolveAsBranch_55 : decode prog_4_method_4_code 55 = .ok (.iload 4, 2) := by decide +kernel
theorem d_Resolver_resolveAsBranch_57 : decode prog_4_method_4_code 57 = .ok (.invokevirtual 101, 3) := by decide +kernel
theorem d_Resolver_resolveAsBranch_60 : decode prog_4_method_4_code 60 = .ok (.iload_n 3, 1) := by decide +kernel
theorem d_Resolver_resolveAsBranch_61 : decode prog_4_method_4_code 61 = .ok (.iconst 1, 1) := by decide +kernel
theorem d_Resolver_resolveAsBranch_62 : decode prog_4_method_4_code 62 = .ok (.iadd, 1) := by decide +kernel
theorem d_Resolver_resolveAsBranch_63 : decode prog_4_method_4_code 63 = .ok (.invokevirtual 45, 3) := by decide +kernel
theorem d_Resolver_resolveAsBranch_66 : decode prog_4_method_4_code 66 = .ok (.ifCond .eq 7, 3) := by decide +kernel
theorem d_Resolver_resolveAsBranch_69 : decode prog_4_method_4_code 69 = .ok (.iconst 1, 1) := by decide +kernel
theorem d_Resolver_resolveAsBranch_70 : decode prog_4_method_4_code 70 = .ok (.goto 4, 3) := by decide +kernel
theorem d_Resolver_resolveAsBranch_73 : decode prog_4_method_4_code 73 = .ok (.iconst 0, 1) := by decide +kernel
theorem d_Resolver_resolveAsBranch_74 : decode prog_4_method_4_code 74 = .ok (.ireturn, 1) := by decide +kernel
def Resolver_resolveAsBranch_b (call : ax_Cf) (x0 : Option Nat) (x1 : Int32) (x2 : Int32) (x3 : Int32) (h : ax_Hp) : ax_O :=
  (ax_gr h x0 1 3).bind fun v1 =>
  (ax_gr h x0 1 2).bind fun v2 =>
  ax_ci (call 128 [ax_A v1, ax_I x2, ax_A v2, ax_I x1] h) fun v4 h3 =>
  if v4 = (-1) then
    ax_rz 0 h3
  else
    (ax_gr h3 x0 1 4).bind fun v5 =>
    ax_on h3 v5 2 <| ax_ci (call 8 [ax_A v5, ax_I (48 + v4)] h3) fun v7 h6 =>
    if v7 = 0 then
      ax_rz 0 h6
    else
      (ax_gr h6 x0 1 4).bind fun v8 =>
      ax_on h6 v8 2 <| ax_ci (call 8 [ax_A v8, ax_I 58] h6) fun v10 h9 =>
      if v10 = 0 then
        ax_rz 0 h9
      else
        (ax_gr h9 x0 1 3).bind fun v11 =>
        ax_on h9 v11 3 <| ax_ci (call 62 [ax_A v11, ax_I x2, ax_I v4] h9) fun v13 h12 =>
        ax_on h12 x0 1 <| ax_ci (call 126 [ax_A x0, ax_I x1, ax_I v13, ax_I (x3 + 1)] h12) fun v15 h14 =>
        if v15 = 0 then
          ax_rz 0 h14
        else
          ax_rz 1 h14
set_option maxHeartbeats 4000000 in
set_option maxRecDepth 20000 in
theorem Resolver_resolveAsBranch_t {l : Launch} {G : ax_G} {d : Nat} {call : ax_Cf} (hcall : ax_Hc l G d call) (x0 : Option Nat) (x1 : Int32) (x2 : Int32) (x3 : Int32) (h : ax_Hp) {r : ax_Rs} {h' : ax_Hp} (ho : Resolver_resolveAsBranch_b call x0 x1 x2 x3 h = some (r, h')) : ax_C l G (d + 1) y_Resolver_resolveAsBranch (.code y_Resolver_resolveAsBranch prog_4_method_4_code 5 (some (.boolean))) [ax_A x0, ax_I x1, ax_I x2, ax_I x3] h r h' := by
  refine ax_enter (by decide) (Nat.le_of_ble_eq_true rfl) ho (fun p e s mi args below meth c B E Nm => ?_)
  have B : ax_B G p s mi meth c "SchemaDesk$Resolver" prog_4_method_4_code 5 (some (.boolean)) := B
  show ax_W G p l e s mi args below meth c 5 (d + 1) h 0 [(0, ax_A x0), (1, ax_I x1), (2, ax_I x2), (3, ax_I x3)] [] h (Resolver_resolveAsBranch_b call x0 x1 x2 x3 h)
  unfold Resolver_resolveAsBranch_b
  refine ax_aload_n B 0 d_Resolver_resolveAsBranch_0 rfl rfl ?_
  refine ax_getfr B cl_Resolver (by decide) fk_Resolver_19 d_Resolver_resolveAsBranch_1 (fun v1 => ?_)
  refine ax_iload_n B 2 d_Resolver_resolveAsBranch_4 rfl rfl ?_
  refine ax_aload_n B 0 d_Resolver_resolveAsBranch_5 rfl rfl ?_
  refine ax_getfr B cl_Resolver (by decide) fk_Resolver_15 d_Resolver_resolveAsBranch_6 (fun v2 => ?_)
  refine ax_iload_n B 1 d_Resolver_resolveAsBranch_9 rfl rfl ?_
  refine ax_callSi (av := [ax_A v1, ax_I x2, ax_A v2, ax_I x1]) (rest := []) B E hm_Compatibility_firstReadingBranch wd_797 lk_Resolver_97 d_Resolver_resolveAsBranch_10 rfl (Nat.le_of_ble_eq_true rfl) (fun _ _ hh => hcall 128 _ _ _ _ hh) (fun v4 h3 => ?_)
  refine ax_istore (tv2 := [(4, ax_I v4), (0, ax_A x0), (1, ax_I x1), (2, ax_I x2), (3, ax_I x3)]) B d_Resolver_resolveAsBranch_13 (by decide) rfl ?_
  refine ax_iload B 0 d_Resolver_resolveAsBranch_15 rfl ?_
  refine ax_iconst (v := (-1)) B d_Resolver_resolveAsBranch_17 (by decide) ?_
  refine ax_icmp_eq B 73 d_Resolver_resolveAsBranch_18 (by decide) ?_ ?_
  · refine ax_iconst (v := 0) B d_Resolver_resolveAsBranch_73 (by decide) ?_
    exact ax_zreturn B d_Resolver_resolveAsBranch_74
  · refine ax_aload_n B 1 d_Resolver_resolveAsBranch_21 rfl rfl ?_
    refine ax_getfr B cl_Resolver (by decide) fk_Resolver_22 d_Resolver_resolveAsBranch_22 (fun v5 => ?_)
    refine ax_bipush (v := 48) B d_Resolver_resolveAsBranch_25 (by decide) ?_
    refine ax_iload B 0 d_Resolver_resolveAsBranch_27 rfl ?_
    refine ax_iadd B d_Resolver_resolveAsBranch_29 ?_
    refine ax_callVi (av := [ax_I (48 + v4)]) (rest := []) B E hm_Row_add cl_Row rfl wd_123 wd_124 lk_Resolver_63 d_Resolver_resolveAsBranch_30 rfl (Nat.le_of_ble_eq_true rfl) (fun _ _ hh => hcall 8 _ _ _ _ hh) (fun v7 h6 => ?_)
    refine ax_if_eq B 73 d_Resolver_resolveAsBranch_33 (by decide) ?_ ?_
    · refine ax_iconst (v := 0) B d_Resolver_resolveAsBranch_73 (by decide) ?_
      exact ax_zreturn B d_Resolver_resolveAsBranch_74
    · refine ax_aload_n B 1 d_Resolver_resolveAsBranch_36 rfl rfl ?_
      refine ax_getfr B cl_Resolver (by decide) fk_Resolver_22 d_Resolver_resolveAsBranch_37 (fun v8 => ?_)
      refine ax_bipush (v := 58) B d_Resolver_resolveAsBranch_40 (by decide) ?_
      refine ax_callVi (av := [ax_I 58]) (rest := []) B E hm_Row_add cl_Row rfl wd_123 wd_124 lk_Resolver_63 d_Resolver_resolveAsBranch_42 rfl (Nat.le_of_ble_eq_true rfl) (fun _ _ hh => hcall 8 _ _ _ _ hh) (fun v10 h9 => ?_)
      refine ax_if_eq B 73 d_Resolver_resolveAsBranch_45 (by decide) ?_ ?_
      · refine ax_iconst (v := 0) B d_Resolver_resolveAsBranch_73 (by decide) ?_
        exact ax_zreturn B d_Resolver_resolveAsBranch_74
      · refine ax_aload_n B 1 d_Resolver_resolveAsBranch_48 rfl rfl ?_
        refine ax_iload_n B 2 d_Resolver_resolveAsBranch_49 rfl rfl ?_
        refine ax_aload_n B 1 d_Resolver_resolveAsBranch_50 rfl rfl ?_
        refine ax_getfr B cl_Resolver (by decide) fk_Resolver_19 d_Resolver_resolveAsBranch_51 (fun v11 => ?_)
        refine ax_iload_n B 3 d_Resolver_resolveAsBranch_54 rfl rfl ?_
        refine ax_iload B 0 d_Resolver_resolveAsBranch_55 rfl ?_
        refine ax_callVi (av := [ax_I x2, ax_I v4]) (rest := [ax_I x1, ax_A x0]) B E hm_Schema_branch cl_Schema rfl wd_447 wd_448 lk_Resolver_101 d_Resolver_resolveAsBranch_57 rfl (Nat.le_of_ble_eq_true rfl) (fun _ _ hh => hcall 62 _ _ _ _ hh) (fun v13 h12 => ?_)
        refine ax_iload_n B 4 d_Resolver_resolveAsBranch_60 rfl rfl ?_
        refine ax_iconst (v := 1) B d_Resolver_resolveAsBranch_61 (by decide) ?_
        refine ax_iadd B d_Resolver_resolveAsBranch_62 ?_
        refine ax_callVi (av := [ax_I x1, ax_I v13, ax_I (x3 + 1)]) (rest := []) B E hm_Resolver_resolve cl_Resolver rfl wd_788 wp_28 lk_Resolver_45 d_Resolver_resolveAsBranch_63 rfl (Nat.le_of_ble_eq_true rfl) (fun _ _ hh => hcall 126 _ _ _ _ hh) (fun v15 h14 => ?_)
        refine ax_if_eq B 73 d_Resolver_resolveAsBranch_66 (by decide) ?_ ?_
        · refine ax_iconst (v := 0) B d_Resolver_resolveAsBranch_73 (by decide) ?_
          exact ax_zreturn B d_Resolver_resolveAsBranch_74
        · refine ax_iconst (v := 1) B d_Resolver_resolveAsBranch_69 (by decide) ?_
          refine ax_goto B 74 d_Resolver_resolveAsBranch_70 (by decide) ?_
          exact ax_zreturn B d_Resolver_resolveAsBranch_74

theorem d_Resolver_addNumber_0 : decode prog_4_method_5_code 0 = .ok (.lload_n 1, 1) := by decide +kernel
theorem d_Resolver_addNumber_1 : decode prog_4_method_5_code 1 = .ok (.lconst 0, 1) := by decide +kernel
theorem d_Resolver_addNumber_2 : decode prog_4_method_5_code 2 = .ok (.lcmp, 1) := by decide +kernel
theorem d_Resolver_addNumber_3 : decode prog_4_method_5_code 3 = .ok (.ifCond .ge 17, 3) := by decide +kernel
theorem d_Resolver_addNumber_6 : decode prog_4_method_5_code 6 = .ok (.aload_n 0, 1) := by decide +kernel
theorem d_Resolver_addNumber_7 : decode prog_4_method_5_code 7 = .ok (.getfield 22, 3) := by decide +kernel
theorem d_Resolver_addNumber_10 : decode prog_4_method_5_code 10 = .ok (.bipush 45, 2) := by decide +kernel
theorem d_Resolver_addNumber_12 : decode prog_4_method_5_code 12 = .ok (.invokevirtual 63, 3) := by decide +kernel
theorem d_Resolver_addNumber_15 : decode prog_4_method_5_code 15 = .ok (.ifCond .ne 5, 3) := by decide +kernel
theorem d_Resolver_addNumber_18 : decode prog_4_method_5_code 18 = .ok (.iconst 0, 1) := by decide +kernel
theorem d_Resolver_addNumber_19 : decode prog_4_method_5_code 19 = .ok (.ireturn, 1) := by decide +kernel
theorem d_Resolver_addNumber_20 : decode prog_4_method_5_code 20 = .ok (.lload_n 1, 1) := by decide +kernel
theorem d_Resolver_addNumber_21 : decode prog_4_method_5_code 21 = .ok (.lconst 0, 1) := by decide +kernel
theorem d_Resolver_addNumber_22 : decode prog_4_method_5_code 22 = .ok (.lcmp, 1) := by decide +kernel
theorem d_Resolver_addNumber_23 : decode prog_4_method_5_code 23 = .ok (.ifCond .ge 7, 3) := by decide +kernel
theorem d_Resolver_addNumber_26 : decode prog_4_method_5_code 26 = .ok (.lload_n 1, 1) := by decide +kernel
theorem d_Resolver_addNumber_27 : decode prog_4_method_5_code 27 = .ok (.goto 5, 3) := by decide +kernel
theorem d_Resolver_addNumber_30 : decode prog_4_method_5_code 30 = .ok (.lload_n 1, 1) := by decide +kernel
theorem d_Resolver_addNumber_31 : decode prog_4_method_5_code 31 = .ok (.lneg, 1) := by decide +kernel
theorem d_Resolver_addNumber_32 : decode prog_4_method_5_code 32 = .ok (.lstore_n 3, 1) := by decide +kernel
theorem d_Resolver_addNumber_33 : decode prog_4_method_5_code 33 = .ok (.aload_n 0, 1) := by decide +kernel
theorem d_Resolver_addNumber_34 : decode prog_4_method_5_code 34 = .ok (.getfield 22, 3) := by decide +kernel
theorem d_Resolver_addNumber_37 : decode prog_4_method_5_code 37 = .ok (.invokevirtual 105, 3) := by decide +kernel
theorem d_Resolver_addNumber_40 : decode prog_4_method_5_code 40 = .ok (.istore 5, 2) := by decide +kernel
theorem d_Resolver_addNumber_42 : decode prog_4_method_5_code 42 = .ok (.lload_n 3, 1) := by decide +kernel
theorem d_Resolver_addNumber_43 : decode prog_4_method_5_code 43 = .ok (.invokestatic 109, 3) := by decide +kernel
theorem d_Resolver_addNumber_46 : decode prog_4_method_5_code 46 = .ok (.istore 6, 2) := by decide +kernel
theorem d_Resolver_addNumber_48 : decode prog_4_method_5_code 48 = .ok (.iconst 0, 1) := by decide +kernel
theorem d_Resolver_addNumber_49 : decode prog_4_method_5_code 49 = .ok (.istore 7, 2) := by decide +kernel
theorem d_Resolver_addNumber_51 : decode prog_4_method_5_code 51 = .ok (.iload 7, 2) := by decide +kernel
theorem d_Resolver_addNumber_53 : decode prog_4_method_5_code 53 = .ok (.iload 6, 2) := by decide +kernel
theorem d_Resolver_addNumber_55 : decode prog_4_method_5_code 55 = .ok (.if_icmp .ge 23, 3) := by decide +kernel
theorem d_Resolver_addNumber_58 : decode prog_4_method_5_code 58 = .ok (.aload_n 0, 1) := by decide +kernel
theorem d_Resolver_addNumber_59 : decode prog_4_method_5_code 59 = .ok (.getfield 22, 3) := by decide +kernel
theorem d_Resolver_addNumber_62 : decode prog_4_method_5_code 62 = .ok (.bipush 48, 2) := by decide +kernel
theorem d_Resolver_addNumber_64 : decode prog_4_method_5_code 64 = .ok (.invokevirtual 63, 3) := by decide +kernel
theorem d_Resolver_addNumber_67 : decode prog_4_method_5_code 67 = .ok (.ifCond .ne 5, 3) := by decide +kernel
theorem d_Resolver_addNumber_70 : decode prog_4_method_5_code 70 = .ok (.iconst 0, 1) := by decide +kernel
theorem d_Resolver_addNumber_71 : decode prog_4_method_5_code 71 = .ok (.ireturn, 1) := by decide +kernel
theorem d_Resolver_addNumber_72 : decode prog_4_method_5_code 72 = .ok (.iinc 7 1, 3) := by decide +kernel
theorem d_Resolver_addNumber_75 : decode prog_4_method_5_code 75 = .ok (.goto (-24), 3) := by decide +kernel
theorem d_Resolver_addNumber_78 : decode prog_4_method_5_code 78 = .ok (.iload 6, 2) := by decide +kernel
theorem d_Resolver_addNumber_80 : decode prog_4_method_5_code 80 = .ok (.iconst 1, 1) := by decide +kernel
theorem d_Resolver_addNumber_81 : decode prog_4_method_5_code 81 = .ok (.isub, 1) := by decide +kernel
theorem d_Resolver_addNumber_82 : decode prog_4_method_5_code 82 = .ok (.istore 7, 2) := by decide +kernel
theorem d_Resolver_addNumber_84 : decode prog_4_method_5_code 84 = .ok (.iload 7, 2) := by decide +kernel
theorem d_Resolver_addNumber_86 : decode prog_4_method_5_code 86 = .ok (.ifCond .lt 36, 3) := by decide +kernel
theorem d_Resolver_addNumber_89 : decode prog_4_method_5_code 89 = .ok (.aload_n 0, 1) := by decide +kernel
theorem d_Resolver_addNumber_90 : decode prog_4_method_5_code 90 = .ok (.getfield 22, 3) := by decide +kernel
theorem d_Resolver_addNumber_93 : decode prog_4_method_5_code 93 = .ok (.iload 5, 2) := by decide +kernel
theorem d_Resolver_addNumber_95 : decode prog_4_method_5_code 95 = .ok (.iload 7, 2) := by decide +kernel
theorem d_Resolver_addNumber_97 : decode prog_4_method_5_code 97 = .ok (.iadd, 1) := by decide +kernel
theorem d_Resolver_addNumber_98 : decode prog_4_method_5_code 98 = .ok (.bipush 48, 2) := by decide +kernel
theorem d_Resolver_addNumber_100 : decode prog_4_method_5_code 100 = .ok (.lload_n 3, 1) := by decide +kernel
theorem d_Resolver_addNumber_101 : decode prog_4_method_5_code 101 = .ok (.ldc2_w 113, 3) := by decide +kernel
theorem d_Resolver_addNumber_104 : decode prog_4_method_5_code 104 = .ok (.lrem, 1) := by decide +kernel
theorem d_Resolver_addNumber_105 : decode prog_4_method_5_code 105 = .ok (.l2i, 1) := by decide +kernel
theorem d_Resolver_addNumber_106 : decode prog_4_method_5_code 106 = .ok (.isub, 1) := by decide +kernel
theorem d_Resolver_addNumber_107 : decode prog_4_method_5_code 107 = .ok (.invokevirtual 115, 3) := by decide +kernel
theorem d_Resolver_addNumber_110 : decode prog_4_method_5_code 110 = .ok (.lload_n 3, 1) := by decide +kernel
theorem d_Resolver_addNumber_111 : decode prog_4_method_5_code 111 = .ok (.ldc2_w 113, 3) := by decide +kernel
theorem d_Resolver_addNumber_114 : decode prog_4_method_5_code 114 = .ok (.ldiv, 1) := by decide +kernel
theorem d_Resolver_addNumber_115 : decode prog_4_method_5_code 115 = .ok (.lstore_n 3, 1) := by decide +kernel
theorem d_Resolver_addNumber_116 : decode prog_4_method_5_code 116 = .ok (.iinc 7 (-1), 3) := by decide +kernel
theorem d_Resolver_addNumber_119 : decode prog_4_method_5_code 119 = .ok (.goto (-35), 3) := by decide +kernel
theorem d_Resolver_addNumber_122 : decode prog_4_method_5_code 122 = .ok (.iconst 1, 1) := by decide +kernel
theorem d_Resolver_addNumber_123 : decode prog_4_method_5_code 123 = .ok (.ireturn, 1) := by decide +kernel
def Resolver_addNumber_bd84 (call : ax_Cf)  (k84 : Option Nat → Int64 → Int32 → Int32 → ax_Hp → ax_O) (x0 : Option Nat) (x3 : Int64) (x5 : Int32) (x7 : Int32) (h : ax_Hp) : ax_O :=
  if x7 < 0 then
    ax_rz 1 h
  else
    (ax_gr h x0 1 4).bind fun v6 =>
    ax_nzl 10 <|
    ax_on h v6 2 <| ax_cv (call 53 [ax_A v6, ax_I (x5 + x7), ax_I (48 - ((x3 - x3 / 10 * 10).toInt32))] h) fun h7 =>
    ax_nzl 10 <|
    k84 x0 (x3 / 10) x5 (x7 + (-1)) h7
def Resolver_addNumber_lp84 (call : ax_Cf)  : Nat → Option Nat → Int64 → Int32 → Int32 → ax_Hp → ax_O
  | 0 => fun _ _ _ _ _ => none
  | n + 1 => Resolver_addNumber_bd84 call  (Resolver_addNumber_lp84 call  n)
set_option maxHeartbeats 4000000 in
set_option maxRecDepth 20000 in
theorem Resolver_addNumber_lb84 {l : Launch} {G : ax_G} {d : Nat} {call : ax_Cf} (hcall : ax_Hc l G d call) {p : Program} {e : Env} {s : State} {mi : MethodId} {args : Array Value} {below : List Frame} {meth : Method} {c : Code} {h0 : ax_Hp} (B : ax_B G p s mi meth c "SchemaDesk$Resolver" prog_4_method_5_code 8 (some (.boolean))) (E : c.exceptionTable.isEmpty = true) (Nm : meth.name = y_Resolver_addNumber.name)   {k84 : Option Nat → Int64 → Int32 → Int32 → ax_Hp → ax_O} (hk84 : ∀ (x0 : Option Nat) (x3 : Int64) (x5 : Int32) (x7 : Int32) (h : ax_Hp), ax_W G p l e s mi args below meth c 8 (d + 1) h0 84 [(0, ax_A x0), (3, ax_L x3), (5, ax_I x5), (7, ax_I x7)] [] h (k84 x0 x3 x5 x7 h)) (x0 : Option Nat) (x3 : Int64) (x5 : Int32) (x7 : Int32) (h : ax_Hp) : ax_W G p l e s mi args below meth c 8 (d + 1) h0 84 [(0, ax_A x0), (3, ax_L x3), (5, ax_I x5), (7, ax_I x7)] [] h (Resolver_addNumber_bd84 call  k84 x0 x3 x5 x7 h) := by
  unfold Resolver_addNumber_bd84
  refine ax_iload B 3 d_Resolver_addNumber_84 rfl ?_
  refine ax_if_lt B 122 d_Resolver_addNumber_86 (by decide) ?_ ?_
  · refine ax_iconst (v := 1) B d_Resolver_addNumber_122 (by decide) ?_
    exact ax_zreturn B d_Resolver_addNumber_123
  · refine ax_aload_n B 0 d_Resolver_addNumber_89 rfl rfl ?_
    refine ax_getfr B cl_Resolver (by decide) fk_Resolver_22 d_Resolver_addNumber_90 (fun v6 => ?_)
    refine ax_iload B 2 d_Resolver_addNumber_93 rfl ?_
    refine ax_iload B 3 d_Resolver_addNumber_95 rfl ?_
    refine ax_iadd B d_Resolver_addNumber_97 ?_
    refine ax_bipush (v := 48) B d_Resolver_addNumber_98 (by decide) ?_
    refine ax_lload_n B 1 d_Resolver_addNumber_100 rfl rfl ?_
    refine ax_ldc2 (v := 10) B wd_815 d_Resolver_addNumber_101 ?_
    refine ax_lrem B d_Resolver_addNumber_104 ?_
    refine ax_l2i B d_Resolver_addNumber_105 ?_
    refine ax_isub B d_Resolver_addNumber_106 ?_
    refine ax_callVv (av := [ax_I (x5 + x7), ax_I (48 - ((x3 - x3 / 10 * 10).toInt32))]) (rest := []) B E hm_Row_set cl_Row rfl wd_409 wd_410 lk_Resolver_115 d_Resolver_addNumber_107 rfl (Nat.le_of_ble_eq_true rfl) (fun _ _ hh => hcall 53 _ _ _ _ hh) (fun h7 => ?_)
    refine ax_lload_n B 1 d_Resolver_addNumber_110 rfl rfl ?_
    refine ax_ldc2 (v := 10) B wd_815 d_Resolver_addNumber_111 ?_
    refine ax_ldiv B d_Resolver_addNumber_114 ?_
    refine ax_lstore_n (tv2 := [(3, ax_L (x3 / 10)), (0, ax_A x0), (5, ax_I x5), (7, ax_I x7)]) B d_Resolver_addNumber_115 rfl (by decide) rfl ?_
    refine ax_iinc (v := x7 + (-1)) (tv2 := [(7, ax_I (x7 + (-1))), (3, ax_L (x3 / 10)), (0, ax_A x0), (5, ax_I x5)]) B 3 d_Resolver_addNumber_116 rfl (congrArg (_ + ·) (by decide)) (by decide) rfl ?_
    refine ax_goto B 84 d_Resolver_addNumber_119 (by decide) ?_
    refine ax_sub (tv2 := [(0, ax_A x0), (3, ax_L (x3 / 10)), (5, ax_I x5), (7, ax_I (x7 + (-1)))]) [2, 1, 3, 0] rfl ?_
    exact hk84 x0 (x3 / 10) x5 (x7 + (-1)) h7
theorem Resolver_addNumber_lq84 {l : Launch} {G : ax_G} {d : Nat} {call : ax_Cf} (hcall : ax_Hc l G d call) {p : Program} {e : Env} {s : State} {mi : MethodId} {args : Array Value} {below : List Frame} {meth : Method} {c : Code} {h0 : ax_Hp} (B : ax_B G p s mi meth c "SchemaDesk$Resolver" prog_4_method_5_code 8 (some (.boolean))) (E : c.exceptionTable.isEmpty = true) (Nm : meth.name = y_Resolver_addNumber.name)   : ∀ (n : Nat) (x0 : Option Nat) (x3 : Int64) (x5 : Int32) (x7 : Int32) (h : ax_Hp), ax_W G p l e s mi args below meth c 8 (d + 1) h0 84 [(0, ax_A x0), (3, ax_L x3), (5, ax_I x5), (7, ax_I x7)] [] h (Resolver_addNumber_lp84 call  n x0 x3 x5 x7 h)
  | 0, _, _, _, _, _ => ax_none
  | n + 1, x0, x3, x5, x7, h => Resolver_addNumber_lb84 hcall B E Nm   (Resolver_addNumber_lq84 hcall B E Nm   n) x0 x3 x5 x7 h
def Resolver_addNumber_bd51 (call : ax_Cf)  (k51 : Option Nat → Int64 → Int32 → Int32 → Int32 → ax_Hp → ax_O) (x0 : Option Nat) (x3 : Int64) (x5 : Int32) (x6 : Int32) (x7 : Int32) (h : ax_Hp) : ax_O :=
  if x6 ≤ x7 then
    Resolver_addNumber_lp84 call ax_fuel x0 x3 x5 (x6 - 1) h
  else
    (ax_gr h x0 1 4).bind fun v9 =>
    ax_on h v9 2 <| ax_ci (call 8 [ax_A v9, ax_I 48] h) fun v11 h10 =>
    if v11 = 0 then
      ax_rz 0 h10
    else
      k51 x0 x3 x5 x6 (x7 + 1) h10
def Resolver_addNumber_lp51 (call : ax_Cf)  : Nat → Option Nat → Int64 → Int32 → Int32 → Int32 → ax_Hp → ax_O
  | 0 => fun _ _ _ _ _ _ => none
  | n + 1 => Resolver_addNumber_bd51 call  (Resolver_addNumber_lp51 call  n)
set_option maxHeartbeats 4000000 in
set_option maxRecDepth 20000 in
theorem Resolver_addNumber_lb51 {l : Launch} {G : ax_G} {d : Nat} {call : ax_Cf} (hcall : ax_Hc l G d call) {p : Program} {e : Env} {s : State} {mi : MethodId} {args : Array Value} {below : List Frame} {meth : Method} {c : Code} {h0 : ax_Hp} (B : ax_B G p s mi meth c "SchemaDesk$Resolver" prog_4_method_5_code 8 (some (.boolean))) (E : c.exceptionTable.isEmpty = true) (Nm : meth.name = y_Resolver_addNumber.name)   {k51 : Option Nat → Int64 → Int32 → Int32 → Int32 → ax_Hp → ax_O} (hk51 : ∀ (x0 : Option Nat) (x3 : Int64) (x5 : Int32) (x6 : Int32) (x7 : Int32) (h : ax_Hp), ax_W G p l e s mi args below meth c 8 (d + 1) h0 51 [(0, ax_A x0), (3, ax_L x3), (5, ax_I x5), (6, ax_I x6), (7, ax_I x7)] [] h (k51 x0 x3 x5 x6 x7 h)) (x0 : Option Nat) (x3 : Int64) (x5 : Int32) (x6 : Int32) (x7 : Int32) (h : ax_Hp) : ax_W G p l e s mi args below meth c 8 (d + 1) h0 51 [(0, ax_A x0), (3, ax_L x3), (5, ax_I x5), (6, ax_I x6), (7, ax_I x7)] [] h (Resolver_addNumber_bd51 call  k51 x0 x3 x5 x6 x7 h) := by
  unfold Resolver_addNumber_bd51
  refine ax_iload B 4 d_Resolver_addNumber_51 rfl ?_
  refine ax_iload B 3 d_Resolver_addNumber_53 rfl ?_
  refine ax_icmp_ge B 78 d_Resolver_addNumber_55 (by decide) ?_ ?_
  · refine ax_iload B 3 d_Resolver_addNumber_78 rfl ?_
    refine ax_iconst (v := 1) B d_Resolver_addNumber_80 (by decide) ?_
    refine ax_isub B d_Resolver_addNumber_81 ?_
    refine ax_istore (tv2 := [(7, ax_I (x6 - 1)), (0, ax_A x0), (3, ax_L x3), (5, ax_I x5), (6, ax_I x6)]) B d_Resolver_addNumber_82 (by decide) rfl ?_
    refine ax_sub (tv2 := [(0, ax_A x0), (3, ax_L x3), (5, ax_I x5), (7, ax_I (x6 - 1))]) [1, 2, 3, 0] rfl ?_
    exact Resolver_addNumber_lq84 hcall B E Nm ax_fuel x0 x3 x5 (x6 - 1) h
  · refine ax_aload_n B 0 d_Resolver_addNumber_58 rfl rfl ?_
    refine ax_getfr B cl_Resolver (by decide) fk_Resolver_22 d_Resolver_addNumber_59 (fun v9 => ?_)
    refine ax_bipush (v := 48) B d_Resolver_addNumber_62 (by decide) ?_
    refine ax_callVi (av := [ax_I 48]) (rest := []) B E hm_Row_add cl_Row rfl wd_123 wd_124 lk_Resolver_63 d_Resolver_addNumber_64 rfl (Nat.le_of_ble_eq_true rfl) (fun _ _ hh => hcall 8 _ _ _ _ hh) (fun v11 h10 => ?_)
    refine ax_if_ne B 72 d_Resolver_addNumber_67 (by decide) ?_ ?_
    · refine ax_iinc (v := x7 + 1) (tv2 := [(7, ax_I (x7 + 1)), (0, ax_A x0), (3, ax_L x3), (5, ax_I x5), (6, ax_I x6)]) B 4 d_Resolver_addNumber_72 rfl (congrArg (_ + ·) (by decide)) (by decide) rfl ?_
      refine ax_goto B 51 d_Resolver_addNumber_75 (by decide) ?_
      refine ax_sub (tv2 := [(0, ax_A x0), (3, ax_L x3), (5, ax_I x5), (6, ax_I x6), (7, ax_I (x7 + 1))]) [1, 2, 3, 4, 0] rfl ?_
      exact hk51 x0 x3 x5 x6 (x7 + 1) h10
    · refine ax_iconst (v := 0) B d_Resolver_addNumber_70 (by decide) ?_
      exact ax_zreturn B d_Resolver_addNumber_71
theorem Resolver_addNumber_lq51 {l : Launch} {G : ax_G} {d : Nat} {call : ax_Cf} (hcall : ax_Hc l G d call) {p : Program} {e : Env} {s : State} {mi : MethodId} {args : Array Value} {below : List Frame} {meth : Method} {c : Code} {h0 : ax_Hp} (B : ax_B G p s mi meth c "SchemaDesk$Resolver" prog_4_method_5_code 8 (some (.boolean))) (E : c.exceptionTable.isEmpty = true) (Nm : meth.name = y_Resolver_addNumber.name)   : ∀ (n : Nat) (x0 : Option Nat) (x3 : Int64) (x5 : Int32) (x6 : Int32) (x7 : Int32) (h : ax_Hp), ax_W G p l e s mi args below meth c 8 (d + 1) h0 51 [(0, ax_A x0), (3, ax_L x3), (5, ax_I x5), (6, ax_I x6), (7, ax_I x7)] [] h (Resolver_addNumber_lp51 call  n x0 x3 x5 x6 x7 h)
  | 0, _, _, _, _, _, _ => ax_none
  | n + 1, x0, x3, x5, x6, x7, h => Resolver_addNumber_lb51 hcall B E Nm   (Resolver_addNumber_lq51 hcall B E Nm   n) x0 x3 x5 x6 x7 h
def Resolver_addNumber_b (call : ax_Cf) (x0 : Option Nat) (x1 : Int64) (h : ax_Hp) : ax_O :=
  if 0 ≤ (lg_cmp x1 0) then
    if 0 ≤ (lg_cmp x1 0) then
      (ax_gr h x0 1 4).bind fun v1 =>
      ax_on h v1 2 <| ax_ci (call 51 [ax_A v1] h) fun v3 h2 =>
      ax_ci (call 131 [ax_L (-x1)] h2) fun v5 h4 =>
      Resolver_addNumber_lp51 call ax_fuel x0 (-x1) v3 v5 0 h4
    else
      (ax_gr h x0 1 4).bind fun v12 =>
      ax_on h v12 2 <| ax_ci (call 51 [ax_A v12] h) fun v14 h13 =>
      ax_ci (call 131 [ax_L x1] h13) fun v16 h15 =>
      Resolver_addNumber_lp51 call ax_fuel x0 x1 v14 v16 0 h15
  else
    (ax_gr h x0 1 4).bind fun v17 =>
    ax_on h v17 2 <| ax_ci (call 8 [ax_A v17, ax_I 45] h) fun v19 h18 =>
    if v19 = 0 then
      ax_rz 0 h18
    else
      if 0 ≤ (lg_cmp x1 0) then
        (ax_gr h18 x0 1 4).bind fun v20 =>
        ax_on h18 v20 2 <| ax_ci (call 51 [ax_A v20] h18) fun v22 h21 =>
        ax_ci (call 131 [ax_L (-x1)] h21) fun v24 h23 =>
        Resolver_addNumber_lp51 call ax_fuel x0 (-x1) v22 v24 0 h23
      else
        (ax_gr h18 x0 1 4).bind fun v25 =>
        ax_on h18 v25 2 <| ax_ci (call 51 [ax_A v25] h18) fun v27 h26 =>
        ax_ci (call 131 [ax_L x1] h26) fun v29 h28 =>
        Resolver_addNumber_lp51 call ax_fuel x0 x1 v27 v29 0 h28
set_option maxHeartbeats 4000000 in
set_option maxRecDepth 20000 in
theorem Resolver_addNumber_t {l : Launch} {G : ax_G} {d : Nat} {call : ax_Cf} (hcall : ax_Hc l G d call) (x0 : Option Nat) (x1 : Int64) (h : ax_Hp) {r : ax_Rs} {h' : ax_Hp} (ho : Resolver_addNumber_b call x0 x1 h = some (r, h')) : ax_C l G (d + 1) y_Resolver_addNumber (.code y_Resolver_addNumber prog_4_method_5_code 8 (some (.boolean))) [ax_A x0, ax_L x1] h r h' := by
  refine ax_enter (by decide) (Nat.le_of_ble_eq_true rfl) ho (fun p e s mi args below meth c B E Nm => ?_)
  have B : ax_B G p s mi meth c "SchemaDesk$Resolver" prog_4_method_5_code 8 (some (.boolean)) := B
  show ax_W G p l e s mi args below meth c 8 (d + 1) h 0 [(0, ax_A x0), (1, ax_L x1)] [] h (Resolver_addNumber_b call x0 x1 h)
  unfold Resolver_addNumber_b
  refine ax_lload_n B 1 d_Resolver_addNumber_0 rfl rfl ?_
  refine ax_lconst (v := 0) B d_Resolver_addNumber_1 (by decide) ?_
  refine ax_lcmp B d_Resolver_addNumber_2 ?_
  refine ax_if_ge B 20 d_Resolver_addNumber_3 (by decide) ?_ ?_
  · refine ax_lload_n B 1 d_Resolver_addNumber_20 rfl rfl ?_
    refine ax_lconst (v := 0) B d_Resolver_addNumber_21 (by decide) ?_
    refine ax_lcmp B d_Resolver_addNumber_22 ?_
    refine ax_if_ge B 30 d_Resolver_addNumber_23 (by decide) ?_ ?_
    · refine ax_lload_n B 1 d_Resolver_addNumber_30 rfl rfl ?_
      refine ax_lneg B d_Resolver_addNumber_31 ?_
      refine ax_lstore_n (tv2 := [(3, ax_L (-x1)), (0, ax_A x0), (1, ax_L x1)]) B d_Resolver_addNumber_32 rfl (by decide) rfl ?_
      refine ax_aload_n B 1 d_Resolver_addNumber_33 rfl rfl ?_
      refine ax_getfr B cl_Resolver (by decide) fk_Resolver_22 d_Resolver_addNumber_34 (fun v1 => ?_)
      refine ax_callVi (av := []) (rest := []) B E hm_Row_size cl_Row rfl wd_401 wd_402 lk_Resolver_105 d_Resolver_addNumber_37 rfl (Nat.le_of_ble_eq_true rfl) (fun _ _ hh => hcall 51 _ _ _ _ hh) (fun v3 h2 => ?_)
      refine ax_istore (tv2 := [(5, ax_I v3), (3, ax_L (-x1)), (0, ax_A x0), (1, ax_L x1)]) B d_Resolver_addNumber_40 (by decide) rfl ?_
      refine ax_lload_n B 1 d_Resolver_addNumber_42 rfl rfl ?_
      refine ax_callSi (av := [ax_L (-x1)]) (rest := []) B E hm_Resolver_countFigures wd_813 lk_Resolver_109 d_Resolver_addNumber_43 rfl (Nat.le_of_ble_eq_true rfl) (fun _ _ hh => hcall 131 _ _ _ _ hh) (fun v5 h4 => ?_)
      refine ax_istore (tv2 := [(6, ax_I v5), (5, ax_I v3), (3, ax_L (-x1)), (0, ax_A x0), (1, ax_L x1)]) B d_Resolver_addNumber_46 (by decide) rfl ?_
      refine ax_iconst (v := 0) B d_Resolver_addNumber_48 (by decide) ?_
      refine ax_istore (tv2 := [(7, ax_I 0), (6, ax_I v5), (5, ax_I v3), (3, ax_L (-x1)), (0, ax_A x0), (1, ax_L x1)]) B d_Resolver_addNumber_49 (by decide) rfl ?_
      refine ax_sub (tv2 := [(0, ax_A x0), (3, ax_L (-x1)), (5, ax_I v3), (6, ax_I v5), (7, ax_I 0)]) [4, 3, 2, 1, 0] rfl ?_
      exact Resolver_addNumber_lq51 hcall B E Nm ax_fuel x0 (-x1) v3 v5 0 h4
    · refine ax_lload_n B 1 d_Resolver_addNumber_26 rfl rfl ?_
      refine ax_goto B 32 d_Resolver_addNumber_27 (by decide) ?_
      refine ax_lstore_n (tv2 := [(3, ax_L x1), (0, ax_A x0), (1, ax_L x1)]) B d_Resolver_addNumber_32 rfl (by decide) rfl ?_
      refine ax_aload_n B 1 d_Resolver_addNumber_33 rfl rfl ?_
      refine ax_getfr B cl_Resolver (by decide) fk_Resolver_22 d_Resolver_addNumber_34 (fun v12 => ?_)
      refine ax_callVi (av := []) (rest := []) B E hm_Row_size cl_Row rfl wd_401 wd_402 lk_Resolver_105 d_Resolver_addNumber_37 rfl (Nat.le_of_ble_eq_true rfl) (fun _ _ hh => hcall 51 _ _ _ _ hh) (fun v14 h13 => ?_)
      refine ax_istore (tv2 := [(5, ax_I v14), (3, ax_L x1), (0, ax_A x0), (1, ax_L x1)]) B d_Resolver_addNumber_40 (by decide) rfl ?_
      refine ax_lload_n B 1 d_Resolver_addNumber_42 rfl rfl ?_
      refine ax_callSi (av := [ax_L x1]) (rest := []) B E hm_Resolver_countFigures wd_813 lk_Resolver_109 d_Resolver_addNumber_43 rfl (Nat.le_of_ble_eq_true rfl) (fun _ _ hh => hcall 131 _ _ _ _ hh) (fun v16 h15 => ?_)
      refine ax_istore (tv2 := [(6, ax_I v16), (5, ax_I v14), (3, ax_L x1), (0, ax_A x0), (1, ax_L x1)]) B d_Resolver_addNumber_46 (by decide) rfl ?_
      refine ax_iconst (v := 0) B d_Resolver_addNumber_48 (by decide) ?_
      refine ax_istore (tv2 := [(7, ax_I 0), (6, ax_I v16), (5, ax_I v14), (3, ax_L x1), (0, ax_A x0), (1, ax_L x1)]) B d_Resolver_addNumber_49 (by decide) rfl ?_
      refine ax_sub (tv2 := [(0, ax_A x0), (3, ax_L x1), (5, ax_I v14), (6, ax_I v16), (7, ax_I 0)]) [4, 3, 2, 1, 0] rfl ?_
      exact Resolver_addNumber_lq51 hcall B E Nm ax_fuel x0 x1 v14 v16 0 h15
  · refine ax_aload_n B 0 d_Resolver_addNumber_6 rfl rfl ?_
    refine ax_getfr B cl_Resolver (by decide) fk_Resolver_22 d_Resolver_addNumber_7 (fun v17 => ?_)
    refine ax_bipush (v := 45) B d_Resolver_addNumber_10 (by decide) ?_
    refine ax_callVi (av := [ax_I 45]) (rest := []) B E hm_Row_add cl_Row rfl wd_123 wd_124 lk_Resolver_63 d_Resolver_addNumber_12 rfl (Nat.le_of_ble_eq_true rfl) (fun _ _ hh => hcall 8 _ _ _ _ hh) (fun v19 h18 => ?_)
    refine ax_if_ne B 20 d_Resolver_addNumber_15 (by decide) ?_ ?_
    · refine ax_lload_n B 1 d_Resolver_addNumber_20 rfl rfl ?_
      refine ax_lconst (v := 0) B d_Resolver_addNumber_21 (by decide) ?_
      refine ax_lcmp B d_Resolver_addNumber_22 ?_
      refine ax_if_ge B 30 d_Resolver_addNumber_23 (by decide) ?_ ?_
      · refine ax_lload_n B 1 d_Resolver_addNumber_30 rfl rfl ?_
        refine ax_lneg B d_Resolver_addNumber_31 ?_
        refine ax_lstore_n (tv2 := [(3, ax_L (-x1)), (0, ax_A x0), (1, ax_L x1)]) B d_Resolver_addNumber_32 rfl (by decide) rfl ?_
        refine ax_aload_n B 1 d_Resolver_addNumber_33 rfl rfl ?_
        refine ax_getfr B cl_Resolver (by decide) fk_Resolver_22 d_Resolver_addNumber_34 (fun v20 => ?_)
        refine ax_callVi (av := []) (rest := []) B E hm_Row_size cl_Row rfl wd_401 wd_402 lk_Resolver_105 d_Resolver_addNumber_37 rfl (Nat.le_of_ble_eq_true rfl) (fun _ _ hh => hcall 51 _ _ _ _ hh) (fun v22 h21 => ?_)
        refine ax_istore (tv2 := [(5, ax_I v22), (3, ax_L (-x1)), (0, ax_A x0), (1, ax_L x1)]) B d_Resolver_addNumber_40 (by decide) rfl ?_
        refine ax_lload_n B 1 d_Resolver_addNumber_42 rfl rfl ?_
        refine ax_callSi (av := [ax_L (-x1)]) (rest := []) B E hm_Resolver_countFigures wd_813 lk_Resolver_109 d_Resolver_addNumber_43 rfl (Nat.le_of_ble_eq_true rfl) (fun _ _ hh => hcall 131 _ _ _ _ hh) (fun v24 h23 => ?_)
        refine ax_istore (tv2 := [(6, ax_I v24), (5, ax_I v22), (3, ax_L (-x1)), (0, ax_A x0), (1, ax_L x1)]) B d_Resolver_addNumber_46 (by decide) rfl ?_
        refine ax_iconst (v := 0) B d_Resolver_addNumber_48 (by decide) ?_
        refine ax_istore (tv2 := [(7, ax_I 0), (6, ax_I v24), (5, ax_I v22), (3, ax_L (-x1)), (0, ax_A x0), (1, ax_L x1)]) B d_Resolver_addNumber_49 (by decide) rfl ?_
        refine ax_sub (tv2 := [(0, ax_A x0), (3, ax_L (-x1)), (5, ax_I v22), (6, ax_I v24), (7, ax_I 0)]) [4, 3, 2, 1, 0] rfl ?_
        exact Resolver_addNumber_lq51 hcall B E Nm ax_fuel x0 (-x1) v22 v24 0 h23
      · refine ax_lload_n B 1 d_Resolver_addNumber_26 rfl rfl ?_
        refine ax_goto B 32 d_Resolver_addNumber_27 (by decide) ?_
        refine ax_lstore_n (tv2 := [(3, ax_L x1), (0, ax_A x0), (1, ax_L x1)]) B d_Resolver_addNumber_32 rfl (by decide) rfl ?_
        refine ax_aload_n B 1 d_Resolver_addNumber_33 rfl rfl ?_
        refine ax_getfr B cl_Resolver (by decide) fk_Resolver_22 d_Resolver_addNumber_34 (fun v25 => ?_)
        refine ax_callVi (av := []) (rest := []) B E hm_Row_size cl_Row rfl wd_401 wd_402 lk_Resolver_105 d_Resolver_addNumber_37 rfl (Nat.le_of_ble_eq_true rfl) (fun _ _ hh => hcall 51 _ _ _ _ hh) (fun v27 h26 => ?_)
        refine ax_istore (tv2 := [(5, ax_I v27), (3, ax_L x1), (0, ax_A x0), (1, ax_L x1)]) B d_Resolver_addNumber_40 (by decide) rfl ?_
        refine ax_lload_n B 1 d_Resolver_addNumber_42 rfl rfl ?_
        refine ax_callSi (av := [ax_L x1]) (rest := []) B E hm_Resolver_countFigures wd_813 lk_Resolver_109 d_Resolver_addNumber_43 rfl (Nat.le_of_ble_eq_true rfl) (fun _ _ hh => hcall 131 _ _ _ _ hh) (fun v29 h28 => ?_)
        refine ax_istore (tv2 := [(6, ax_I v29), (5, ax_I v27), (3, ax_L x1), (0, ax_A x0), (1, ax_L x1)]) B d_Resolver_addNumber_46 (by decide) rfl ?_
        refine ax_iconst (v := 0) B d_Resolver_addNumber_48 (by decide) ?_
        refine ax_istore (tv2 := [(7, ax_I 0), (6, ax_I v29), (5, ax_I v27), (3, ax_L x1), (0, ax_A x0), (1, ax_L x1)]) B d_Resolver_addNumber_49 (by decide) rfl ?_
        refine ax_sub (tv2 := [(0, ax_A x0), (3, ax_L x1), (5, ax_I v27), (6, ax_I v29), (7, ax_I 0)]) [4, 3, 2, 1, 0] rfl ?_
        exact Resolver_addNumber_lq51 hcall B E Nm ax_fuel x0 x1 v27 v29 0 h28
    · refine ax_iconst (v := 0) B d_Resolver_addNumber_18 (by decide) ?_
      exact ax_zreturn B d_Resolver_addNumber_19

theorem d_Resolver_countFigures_0 : decode prog_4_method_6_code 0 = .ok (.iconst 1, 1) := by decide +kernel
theorem d_Resolver_countFigures_1 : decode prog_4_method_6_code 1 = .ok (.istore_n 2, 1) := by decide +kernel
theorem d_Resolver_countFigures_2 : decode prog_4_method_6_code 2 = .ok (.lload_n 0, 1) := by decide +kernel
theorem d_Resolver_countFigures_3 : decode prog_4_method_6_code 3 = .ok (.ldc2_w 113, 3) := by decide +kernel
theorem d_Resolver_countFigures_6 : decode prog_4_method_6_code 6 = .ok (.ldiv, 1) := by decide +kernel
theorem d_Resolver_countFigures_7 : decode prog_4_method_6_code 7 = .ok (.lstore_n 3, 1) := by decide +kernel
theorem d_Resolver_countFigures_8 : decode prog_4_method_6_code 8 = .ok (.lload_n 3, 1) := by decide +kernel
theorem d_Resolver_countFigures_9 : decode prog_4_method_6_code 9 = .ok (.lconst 0, 1) := by decide +kernel
theorem d_Resolver_countFigures_10 : decode prog_4_method_6_code 10 = .ok (.lcmp, 1) := by decide +kernel
theorem d_Resolver_countFigures_11 : decode prog_4_method_6_code 11 = .ok (.ifCond .eq 21, 3) := by decide +kernel
theorem d_Resolver_countFigures_14 : decode prog_4_method_6_code 14 = .ok (.iload_n 2, 1) := by decide +kernel
theorem d_Resolver_countFigures_15 : decode prog_4_method_6_code 15 = .ok (.bipush 20, 2) := by decide +kernel
theorem d_Resolver_countFigures_17 : decode prog_4_method_6_code 17 = .ok (.if_icmp .ge 15, 3) := by decide +kernel
theorem d_Resolver_countFigures_20 : decode prog_4_method_6_code 20 = .ok (.iinc 2 1, 3) := by decide +kernel
theorem d_Resolver_countFigures_23 : decode prog_4_method_6_code 23 = .ok (.lload_n 3, 1) := by decide +kernel
theorem d_Resolver_countFigures_24 : decode prog_4_method_6_code 24 = .ok (.ldc2_w 113, 3) := by decide +kernel
theorem d_Resolver_countFigures_27 : decode prog_4_method_6_code 27 = .ok (.ldiv, 1) := by decide +kernel
theorem d_Resolver_countFigures_28 : decode prog_4_method_6_code 28 = .ok (.lstore_n 3, 1) := by decide +kernel
theorem d_Resolver_countFigures_29 : decode prog_4_method_6_code 29 = .ok (.goto (-21), 3) := by decide +kernel
theorem d_Resolver_countFigures_32 : decode prog_4_method_6_code 32 = .ok (.iload_n 2, 1) := by decide +kernel
theorem d_Resolver_countFigures_33 : decode prog_4_method_6_code 33 = .ok (.ireturn, 1) := by decide +kernel
def Resolver_countFigures_bd8 (call : ax_Cf)  (k8 : Int32 → Int64 → ax_Hp → ax_O) (x2 : Int32) (x3 : Int64) (h : ax_Hp) : ax_O :=
  if (lg_cmp x3 0) = 0 then
    ax_ri x2 h
  else
    if 20 ≤ x2 then
      ax_ri x2 h
    else
      ax_nzl 10 <|
      k8 (x2 + 1) (x3 / 10) h
def Resolver_countFigures_lp8 (call : ax_Cf)  : Nat → Int32 → Int64 → ax_Hp → ax_O
  | 0 => fun _ _ _ => none
  | n + 1 => Resolver_countFigures_bd8 call  (Resolver_countFigures_lp8 call  n)
set_option maxHeartbeats 4000000 in
set_option maxRecDepth 20000 in
theorem Resolver_countFigures_lb8 {l : Launch} {G : ax_G} {d : Nat} {call : ax_Cf} (hcall : ax_Hc l G d call) {p : Program} {e : Env} {s : State} {mi : MethodId} {args : Array Value} {below : List Frame} {meth : Method} {c : Code} {h0 : ax_Hp} (B : ax_B G p s mi meth c "SchemaDesk$Resolver" prog_4_method_6_code 5 (some (.int))) (E : c.exceptionTable.isEmpty = true) (Nm : meth.name = y_Resolver_countFigures.name)   {k8 : Int32 → Int64 → ax_Hp → ax_O} (hk8 : ∀ (x2 : Int32) (x3 : Int64) (h : ax_Hp), ax_W G p l e s mi args below meth c 5 (d + 1) h0 8 [(2, ax_I x2), (3, ax_L x3)] [] h (k8 x2 x3 h)) (x2 : Int32) (x3 : Int64) (h : ax_Hp) : ax_W G p l e s mi args below meth c 5 (d + 1) h0 8 [(2, ax_I x2), (3, ax_L x3)] [] h (Resolver_countFigures_bd8 call  k8 x2 x3 h) := by
  unfold Resolver_countFigures_bd8
  refine ax_lload_n B 1 d_Resolver_countFigures_8 rfl rfl ?_
  refine ax_lconst (v := 0) B d_Resolver_countFigures_9 (by decide) ?_
  refine ax_lcmp B d_Resolver_countFigures_10 ?_
  refine ax_if_eq B 32 d_Resolver_countFigures_11 (by decide) ?_ ?_
  · refine ax_iload_n B 0 d_Resolver_countFigures_32 rfl rfl ?_
    exact ax_ireturn B d_Resolver_countFigures_33
  · refine ax_iload_n B 0 d_Resolver_countFigures_14 rfl rfl ?_
    refine ax_bipush (v := 20) B d_Resolver_countFigures_15 (by decide) ?_
    refine ax_icmp_ge B 32 d_Resolver_countFigures_17 (by decide) ?_ ?_
    · refine ax_iload_n B 0 d_Resolver_countFigures_32 rfl rfl ?_
      exact ax_ireturn B d_Resolver_countFigures_33
    · refine ax_iinc (v := x2 + 1) (tv2 := [(2, ax_I (x2 + 1)), (3, ax_L x3)]) B 0 d_Resolver_countFigures_20 rfl (congrArg (_ + ·) (by decide)) (by decide) rfl ?_
      refine ax_lload_n B 1 d_Resolver_countFigures_23 rfl rfl ?_
      refine ax_ldc2 (v := 10) B wd_815 d_Resolver_countFigures_24 ?_
      refine ax_ldiv B d_Resolver_countFigures_27 ?_
      refine ax_lstore_n (tv2 := [(3, ax_L (x3 / 10)), (2, ax_I (x2 + 1))]) B d_Resolver_countFigures_28 rfl (by decide) rfl ?_
      refine ax_goto B 8 d_Resolver_countFigures_29 (by decide) ?_
      refine ax_sub (tv2 := [(2, ax_I (x2 + 1)), (3, ax_L (x3 / 10))]) [1, 0] rfl ?_
      exact hk8 (x2 + 1) (x3 / 10) h
theorem Resolver_countFigures_lq8 {l : Launch} {G : ax_G} {d : Nat} {call : ax_Cf} (hcall : ax_Hc l G d call) {p : Program} {e : Env} {s : State} {mi : MethodId} {args : Array Value} {below : List Frame} {meth : Method} {c : Code} {h0 : ax_Hp} (B : ax_B G p s mi meth c "SchemaDesk$Resolver" prog_4_method_6_code 5 (some (.int))) (E : c.exceptionTable.isEmpty = true) (Nm : meth.name = y_Resolver_countFigures.name)   : ∀ (n : Nat) (x2 : Int32) (x3 : Int64) (h : ax_Hp), ax_W G p l e s mi args below meth c 5 (d + 1) h0 8 [(2, ax_I x2), (3, ax_L x3)] [] h (Resolver_countFigures_lp8 call  n x2 x3 h)
  | 0, _, _, _ => ax_none
  | n + 1, x2, x3, h => Resolver_countFigures_lb8 hcall B E Nm   (Resolver_countFigures_lq8 hcall B E Nm   n) x2 x3 h
def Resolver_countFigures_b (call : ax_Cf) (x0 : Int64) (h : ax_Hp) : ax_O :=
  ax_nzl 10 <|
  Resolver_countFigures_lp8 call ax_fuel 1 (x0 / 10) h
set_option maxHeartbeats 4000000 in
set_option maxRecDepth 20000 in
theorem Resolver_countFigures_t {l : Launch} {G : ax_G} {d : Nat} {call : ax_Cf} (hcall : ax_Hc l G d call) (x0 : Int64) (h : ax_Hp) {r : ax_Rs} {h' : ax_Hp} (ho : Resolver_countFigures_b call x0 h = some (r, h')) : ax_C l G (d + 1) y_Resolver_countFigures (.code y_Resolver_countFigures prog_4_method_6_code 5 (some (.int))) [ax_L x0] h r h' := by
  refine ax_enter (by decide) (Nat.le_of_ble_eq_true rfl) ho (fun p e s mi args below meth c B E Nm => ?_)
  have B : ax_B G p s mi meth c "SchemaDesk$Resolver" prog_4_method_6_code 5 (some (.int)) := B
  show ax_W G p l e s mi args below meth c 5 (d + 1) h 0 [(0, ax_L x0)] [] h (Resolver_countFigures_b call x0 h)
  unfold Resolver_countFigures_b
  refine ax_iconst (v := 1) B d_Resolver_countFigures_0 (by decide) ?_
  refine ax_istore_n (tv2 := [(2, ax_I 1), (0, ax_L x0)]) B d_Resolver_countFigures_1 rfl (by decide) rfl ?_
  refine ax_lload_n B 1 d_Resolver_countFigures_2 rfl rfl ?_
  refine ax_ldc2 (v := 10) B wd_815 d_Resolver_countFigures_3 ?_
  refine ax_ldiv B d_Resolver_countFigures_6 ?_
  refine ax_lstore_n (tv2 := [(3, ax_L (x0 / 10)), (2, ax_I 1), (0, ax_L x0)]) B d_Resolver_countFigures_7 rfl (by decide) rfl ?_
  refine ax_sub (tv2 := [(2, ax_I 1), (3, ax_L (x0 / 10))]) [1, 0] rfl ?_
  exact Resolver_countFigures_lq8 hcall B E Nm ax_fuel 1 (x0 / 10) h

theorem d_Resolver_resolveString_0 : decode prog_4_method_7_code 0 = .ok (.aload_n 0, 1) := by decide +kernel
theorem d_Resolver_resolveString_1 : decode prog_4_method_7_code 1 = .ok (.getfield 35, 3) := by decide +kernel
theorem d_Resolver_resolveString_4 : decode prog_4_method_7_code 4 = .ok (.bipush 12, 2) := by decide +kernel
theorem d_Resolver_resolveString_6 : decode prog_4_method_7_code 6 = .ok (.invokevirtual 119, 3) := by decide +kernel
theorem d_Resolver_resolveString_9 : decode prog_4_method_7_code 9 = .ok (.ifCond .eq 15, 3) := by decide +kernel
theorem d_Resolver_resolveString_12 : decode prog_4_method_7_code 12 = .ok (.aload_n 0, 1) := by decide +kernel
theorem d_Resolver_resolveString_13 : decode prog_4_method_7_code 13 = .ok (.getfield 22, 3) := by decide +kernel
theorem d_Resolver_resolveString_16 : decode prog_4_method_7_code 16 = .ok (.bipush 34, 2) := by decide +kernel
theorem d_Resolver_resolveString_18 : decode prog_4_method_7_code 18 = .ok (.invokevirtual 63, 3) := by decide +kernel
theorem d_Resolver_resolveString_21 : decode prog_4_method_7_code 21 = .ok (.ifCond .ne 5, 3) := by decide +kernel
theorem d_Resolver_resolveString_24 : decode prog_4_method_7_code 24 = .ok (.iconst 0, 1) := by decide +kernel
theorem d_Resolver_resolveString_25 : decode prog_4_method_7_code 25 = .ok (.ireturn, 1) := by decide +kernel
theorem d_Resolver_resolveString_26 : decode prog_4_method_7_code 26 = .ok (.aload_n 0, 1) := by decide +kernel
theorem d_Resolver_resolveString_27 : decode prog_4_method_7_code 27 = .ok (.getfield 35, 3) := by decide +kernel
theorem d_Resolver_resolveString_30 : decode prog_4_method_7_code 30 = .ok (.invokevirtual 73, 3) := by decide +kernel
theorem d_Resolver_resolveString_33 : decode prog_4_method_7_code 33 = .ok (.l2i, 1) := by decide +kernel
theorem d_Resolver_resolveString_34 : decode prog_4_method_7_code 34 = .ok (.istore_n 1, 1) := by decide +kernel
theorem d_Resolver_resolveString_35 : decode prog_4_method_7_code 35 = .ok (.iconst 0, 1) := by decide +kernel
theorem d_Resolver_resolveString_36 : decode prog_4_method_7_code 36 = .ok (.istore_n 2, 1) := by decide +kernel
theorem d_Resolver_resolveString_37 : decode prog_4_method_7_code 37 = .ok (.iload_n 2, 1) := by decide +kernel
theorem d_Resolver_resolveString_38 : decode prog_4_method_7_code 38 = .ok (.iload_n 1, 1) := by decide +kernel
theorem d_Resolver_resolveString_39 : decode prog_4_method_7_code 39 = .ok (.if_icmp .ge 39, 3) := by decide +kernel
theorem d_Resolver_resolveString_42 : decode prog_4_method_7_code 42 = .ok (.aload_n 0, 1) := by decide +kernel
theorem d_Resolver_resolveString_43 : decode prog_4_method_7_code 43 = .ok (.getfield 35, 3) := by decide +kernel
theorem d_Resolver_resolveString_46 : decode prog_4_method_7_code 46 = .ok (.invokevirtual 122, 3) := by decide +kernel
theorem d_Resolver_resolveString_49 : decode prog_4_method_7_code 49 = .ok (.ifCond .eq 21, 3) := by decide +kernel
theorem d_Resolver_resolveString_52 : decode prog_4_method_7_code 52 = .ok (.aload_n 0, 1) := by decide +kernel
theorem d_Resolver_resolveString_53 : decode prog_4_method_7_code 53 = .ok (.getfield 22, 3) := by decide +kernel
theorem d_Resolver_resolveString_56 : decode prog_4_method_7_code 56 = .ok (.aload_n 0, 1) := by decide +kernel
theorem d_Resolver_resolveString_57 : decode prog_4_method_7_code 57 = .ok (.getfield 35, 3) := by decide +kernel
theorem d_Resolver_resolveString_60 : decode prog_4_method_7_code 60 = .ok (.invokevirtual 73, 3) := by decide +kernel
theorem d_Resolver_resolveString_63 : decode prog_4_method_7_code 63 = .ok (.l2i, 1) := by decide +kernel
theorem d_Resolver_resolveString_64 : decode prog_4_method_7_code 64 = .ok (.invokevirtual 63, 3) := by decide +kernel
theorem d_Resolver_resolveString_67 : decode prog_4_method_7_code 67 = .ok (.ifCond .ne 5, 3) := by decide +kernel
theorem d_Resolver_resolveString_70 : decode prog_4_method_7_code 70 = .ok (.iconst 0, 1) := by decide +kernel
theorem d_Resolver_resolveString_71 : decode prog_4_method_7_code 71 = .ok (.ireturn, 1) := by decide +kernel
theorem d_Resolver_resolveString_72 : decode prog_4_method_7_code 72 = .ok (.iinc 2 1, 3) := by decide +kernel
theorem d_Resolver_resolveString_75 : decode prog_4_method_7_code 75 = .ok (.goto (-38), 3) := by decide +kernel
theorem d_Resolver_resolveString_78 : decode prog_4_method_7_code 78 = .ok (.aload_n 0, 1) := by decide +kernel
theorem d_Resolver_resolveString_79 : decode prog_4_method_7_code 79 = .ok (.getfield 22, 3) := by decide +kernel
theorem d_Resolver_resolveString_82 : decode prog_4_method_7_code 82 = .ok (.bipush 34, 2) := by decide +kernel
theorem d_Resolver_resolveString_84 : decode prog_4_method_7_code 84 = .ok (.invokevirtual 63, 3) := by decide +kernel
theorem d_Resolver_resolveString_87 : decode prog_4_method_7_code 87 = .ok (.ireturn, 1) := by decide +kernel
def Resolver_resolveString_bd37 (call : ax_Cf)  (k37 : Option Nat → Int32 → Int32 → ax_Hp → ax_O) (x0 : Option Nat) (x1 : Int32) (x2 : Int32) (h : ax_Hp) : ax_O :=
  if x1 ≤ x2 then
    (ax_gr h x0 1 4).bind fun v10 =>
    ax_on h v10 2 <| ax_ci (call 8 [ax_A v10, ax_I 34] h) fun v12 h11 =>
    ax_rz v12 h11
  else
    (ax_gr h x0 1 1).bind fun v13 =>
    ax_on h v13 5 <| ax_ci (call 116 [ax_A v13] h) fun v15 h14 =>
    if v15 = 0 then
      ax_rz 0 h14
    else
      (ax_gr h14 x0 1 4).bind fun v16 =>
      (ax_gr h14 x0 1 1).bind fun v17 =>
      ax_on h14 v17 5 <| ax_cl (call 129 [ax_A v17] h14) fun v19 h18 =>
      ax_on h18 v16 2 <| ax_ci (call 8 [ax_A v16, ax_I (v19.toInt32)] h18) fun v21 h20 =>
      if v21 = 0 then
        ax_rz 0 h20
      else
        k37 x0 x1 (x2 + 1) h20
def Resolver_resolveString_lp37 (call : ax_Cf)  : Nat → Option Nat → Int32 → Int32 → ax_Hp → ax_O
  | 0 => fun _ _ _ _ => none
  | n + 1 => Resolver_resolveString_bd37 call  (Resolver_resolveString_lp37 call  n)
set_option maxHeartbeats 4000000 in
set_option maxRecDepth 20000 in
theorem Resolver_resolveString_lb37 {l : Launch} {G : ax_G} {d : Nat} {call : ax_Cf} (hcall : ax_Hc l G d call) {p : Program} {e : Env} {s : State} {mi : MethodId} {args : Array Value} {below : List Frame} {meth : Method} {c : Code} {h0 : ax_Hp} (B : ax_B G p s mi meth c "SchemaDesk$Resolver" prog_4_method_7_code 3 (some (.boolean))) (E : c.exceptionTable.isEmpty = true) (Nm : meth.name = y_Resolver_resolveString.name)   {k37 : Option Nat → Int32 → Int32 → ax_Hp → ax_O} (hk37 : ∀ (x0 : Option Nat) (x1 : Int32) (x2 : Int32) (h : ax_Hp), ax_W G p l e s mi args below meth c 3 (d + 1) h0 37 [(0, ax_A x0), (1, ax_I x1), (2, ax_I x2)] [] h (k37 x0 x1 x2 h)) (x0 : Option Nat) (x1 : Int32) (x2 : Int32) (h : ax_Hp) : ax_W G p l e s mi args below meth c 3 (d + 1) h0 37 [(0, ax_A x0), (1, ax_I x1), (2, ax_I x2)] [] h (Resolver_resolveString_bd37 call  k37 x0 x1 x2 h) := by
  unfold Resolver_resolveString_bd37
  refine ax_iload_n B 2 d_Resolver_resolveString_37 rfl rfl ?_
  refine ax_iload_n B 1 d_Resolver_resolveString_38 rfl rfl ?_
  refine ax_icmp_ge B 78 d_Resolver_resolveString_39 (by decide) ?_ ?_
  · refine ax_aload_n B 0 d_Resolver_resolveString_78 rfl rfl ?_
    refine ax_getfr B cl_Resolver (by decide) fk_Resolver_22 d_Resolver_resolveString_79 (fun v10 => ?_)
    refine ax_bipush (v := 34) B d_Resolver_resolveString_82 (by decide) ?_
    refine ax_callVi (av := [ax_I 34]) (rest := []) B E hm_Row_add cl_Row rfl wd_123 wd_124 lk_Resolver_63 d_Resolver_resolveString_84 rfl (Nat.le_of_ble_eq_true rfl) (fun _ _ hh => hcall 8 _ _ _ _ hh) (fun v12 h11 => ?_)
    exact ax_zreturn B d_Resolver_resolveString_87
  · refine ax_aload_n B 0 d_Resolver_resolveString_42 rfl rfl ?_
    refine ax_getfr B cl_Resolver (by decide) fk_Resolver_35 d_Resolver_resolveString_43 (fun v13 => ?_)
    refine ax_callVi (av := []) (rest := []) B E hm_StreamReader_readStringCharacter cl_StreamReader rfl wd_716 wd_717 lk_Resolver_122 d_Resolver_resolveString_46 rfl (Nat.le_of_ble_eq_true rfl) (fun _ _ hh => hcall 116 _ _ _ _ hh) (fun v15 h14 => ?_)
    refine ax_if_eq B 70 d_Resolver_resolveString_49 (by decide) ?_ ?_
    · refine ax_iconst (v := 0) B d_Resolver_resolveString_70 (by decide) ?_
      exact ax_zreturn B d_Resolver_resolveString_71
    · refine ax_aload_n B 0 d_Resolver_resolveString_52 rfl rfl ?_
      refine ax_getfr B cl_Resolver (by decide) fk_Resolver_22 d_Resolver_resolveString_53 (fun v16 => ?_)
      refine ax_aload_n B 0 d_Resolver_resolveString_56 rfl rfl ?_
      refine ax_getfr B cl_Resolver (by decide) fk_Resolver_35 d_Resolver_resolveString_57 (fun v17 => ?_)
      refine ax_callVl (av := []) (rest := [ax_A v16]) B E hm_StreamReader_number cl_StreamReader rfl wd_803 wd_804 lk_Resolver_73 d_Resolver_resolveString_60 rfl (Nat.le_of_ble_eq_true rfl) (fun _ _ hh => hcall 129 _ _ _ _ hh) (fun v19 h18 => ?_)
      refine ax_l2i B d_Resolver_resolveString_63 ?_
      refine ax_callVi (av := [ax_I (v19.toInt32)]) (rest := []) B E hm_Row_add cl_Row rfl wd_123 wd_124 lk_Resolver_63 d_Resolver_resolveString_64 rfl (Nat.le_of_ble_eq_true rfl) (fun _ _ hh => hcall 8 _ _ _ _ hh) (fun v21 h20 => ?_)
      refine ax_if_ne B 72 d_Resolver_resolveString_67 (by decide) ?_ ?_
      · refine ax_iinc (v := x2 + 1) (tv2 := [(2, ax_I (x2 + 1)), (0, ax_A x0), (1, ax_I x1)]) B 2 d_Resolver_resolveString_72 rfl (congrArg (_ + ·) (by decide)) (by decide) rfl ?_
        refine ax_goto B 37 d_Resolver_resolveString_75 (by decide) ?_
        refine ax_sub (tv2 := [(0, ax_A x0), (1, ax_I x1), (2, ax_I (x2 + 1))]) [1, 2, 0] rfl ?_
        exact hk37 x0 x1 (x2 + 1) h20
      · refine ax_iconst (v := 0) B d_Resolver_resolveString_70 (by decide) ?_
        exact ax_zreturn B d_Resolver_resolveString_71
theorem Resolver_resolveString_lq37 {l : Launch} {G : ax_G} {d : Nat} {call : ax_Cf} (hcall : ax_Hc l G d call) {p : Program} {e : Env} {s : State} {mi : MethodId} {args : Array Value} {below : List Frame} {meth : Method} {c : Code} {h0 : ax_Hp} (B : ax_B G p s mi meth c "SchemaDesk$Resolver" prog_4_method_7_code 3 (some (.boolean))) (E : c.exceptionTable.isEmpty = true) (Nm : meth.name = y_Resolver_resolveString.name)   : ∀ (n : Nat) (x0 : Option Nat) (x1 : Int32) (x2 : Int32) (h : ax_Hp), ax_W G p l e s mi args below meth c 3 (d + 1) h0 37 [(0, ax_A x0), (1, ax_I x1), (2, ax_I x2)] [] h (Resolver_resolveString_lp37 call  n x0 x1 x2 h)
  | 0, _, _, _, _ => ax_none
  | n + 1, x0, x1, x2, h => Resolver_resolveString_lb37 hcall B E Nm   (Resolver_resolveString_lq37 hcall B E Nm   n) x0 x1 x2 h
def Resolver_resolveString_b (call : ax_Cf) (x0 : Option Nat) (h : ax_Hp) : ax_O :=
  (ax_gr h x0 1 1).bind fun v1 =>
  ax_on h v1 5 <| ax_ci (call 115 [ax_A v1, ax_I 12] h) fun v3 h2 =>
  if v3 = 0 then
    ax_rz 0 h2
  else
    (ax_gr h2 x0 1 4).bind fun v4 =>
    ax_on h2 v4 2 <| ax_ci (call 8 [ax_A v4, ax_I 34] h2) fun v6 h5 =>
    if v6 = 0 then
      ax_rz 0 h5
    else
      (ax_gr h5 x0 1 1).bind fun v7 =>
      ax_on h5 v7 5 <| ax_cl (call 129 [ax_A v7] h5) fun v9 h8 =>
      Resolver_resolveString_lp37 call ax_fuel x0 (v9.toInt32) 0 h8
set_option maxHeartbeats 4000000 in
set_option maxRecDepth 20000 in
theorem Resolver_resolveString_t {l : Launch} {G : ax_G} {d : Nat} {call : ax_Cf} (hcall : ax_Hc l G d call) (x0 : Option Nat) (h : ax_Hp) {r : ax_Rs} {h' : ax_Hp} (ho : Resolver_resolveString_b call x0 h = some (r, h')) : ax_C l G (d + 1) y_Resolver_resolveString (.code y_Resolver_resolveString prog_4_method_7_code 3 (some (.boolean))) [ax_A x0] h r h' := by
  refine ax_enter (by decide) (Nat.le_of_ble_eq_true rfl) ho (fun p e s mi args below meth c B E Nm => ?_)
  have B : ax_B G p s mi meth c "SchemaDesk$Resolver" prog_4_method_7_code 3 (some (.boolean)) := B
  show ax_W G p l e s mi args below meth c 3 (d + 1) h 0 [(0, ax_A x0)] [] h (Resolver_resolveString_b call x0 h)
  unfold Resolver_resolveString_b
  refine ax_aload_n B 0 d_Resolver_resolveString_0 rfl rfl ?_
  refine ax_getfr B cl_Resolver (by decide) fk_Resolver_35 d_Resolver_resolveString_1 (fun v1 => ?_)
  refine ax_bipush (v := 12) B d_Resolver_resolveString_4 (by decide) ?_
  refine ax_callVi (av := [ax_I 12]) (rest := []) B E hm_StreamReader_readCount cl_StreamReader rfl wd_712 wd_713 lk_Resolver_119 d_Resolver_resolveString_6 rfl (Nat.le_of_ble_eq_true rfl) (fun _ _ hh => hcall 115 _ _ _ _ hh) (fun v3 h2 => ?_)
  refine ax_if_eq B 24 d_Resolver_resolveString_9 (by decide) ?_ ?_
  · refine ax_iconst (v := 0) B d_Resolver_resolveString_24 (by decide) ?_
    exact ax_zreturn B d_Resolver_resolveString_25
  · refine ax_aload_n B 0 d_Resolver_resolveString_12 rfl rfl ?_
    refine ax_getfr B cl_Resolver (by decide) fk_Resolver_22 d_Resolver_resolveString_13 (fun v4 => ?_)
    refine ax_bipush (v := 34) B d_Resolver_resolveString_16 (by decide) ?_
    refine ax_callVi (av := [ax_I 34]) (rest := []) B E hm_Row_add cl_Row rfl wd_123 wd_124 lk_Resolver_63 d_Resolver_resolveString_18 rfl (Nat.le_of_ble_eq_true rfl) (fun _ _ hh => hcall 8 _ _ _ _ hh) (fun v6 h5 => ?_)
    refine ax_if_ne B 26 d_Resolver_resolveString_21 (by decide) ?_ ?_
    · refine ax_aload_n B 0 d_Resolver_resolveString_26 rfl rfl ?_
      refine ax_getfr B cl_Resolver (by decide) fk_Resolver_35 d_Resolver_resolveString_27 (fun v7 => ?_)
      refine ax_callVl (av := []) (rest := []) B E hm_StreamReader_number cl_StreamReader rfl wd_803 wd_804 lk_Resolver_73 d_Resolver_resolveString_30 rfl (Nat.le_of_ble_eq_true rfl) (fun _ _ hh => hcall 129 _ _ _ _ hh) (fun v9 h8 => ?_)
      refine ax_l2i B d_Resolver_resolveString_33 ?_
      refine ax_istore_n (tv2 := [(1, ax_I (v9.toInt32)), (0, ax_A x0)]) B d_Resolver_resolveString_34 rfl (by decide) rfl ?_
      refine ax_iconst (v := 0) B d_Resolver_resolveString_35 (by decide) ?_
      refine ax_istore_n (tv2 := [(2, ax_I 0), (1, ax_I (v9.toInt32)), (0, ax_A x0)]) B d_Resolver_resolveString_36 rfl (by decide) rfl ?_
      refine ax_sub (tv2 := [(0, ax_A x0), (1, ax_I (v9.toInt32)), (2, ax_I 0)]) [2, 1, 0] rfl ?_
      exact Resolver_resolveString_lq37 hcall B E Nm ax_fuel x0 (v9.toInt32) 0 h8
    · refine ax_iconst (v := 0) B d_Resolver_resolveString_24 (by decide) ?_
      exact ax_zreturn B d_Resolver_resolveString_25

theorem d_Resolver_resolveSymbol_0 : decode prog_4_method_8_code 0 = .ok (.aload_n 0, 1) := by decide +kernel
theorem d_Resolver_resolveSymbol_1 : decode prog_4_method_8_code 1 = .ok (.getfield 35, 3) := by decide +kernel
theorem d_Resolver_resolveSymbol_4 : decode prog_4_method_8_code 4 = .ok (.bipush 7, 2) := by decide +kernel
theorem d_Resolver_resolveSymbol_6 : decode prog_4_method_8_code 6 = .ok (.invokevirtual 119, 3) := by decide +kernel
theorem d_Resolver_resolveSymbol_9 : decode prog_4_method_8_code 9 = .ok (.ifCond .ne 5, 3) := by decide +kernel
theorem d_Resolver_resolveSymbol_12 : decode prog_4_method_8_code 12 = .ok (.iconst 0, 1) := by decide +kernel
theorem d_Resolver_resolveSymbol_13 : decode prog_4_method_8_code 13 = .ok (.ireturn, 1) := by decide +kernel
theorem d_Resolver_resolveSymbol_14 : decode prog_4_method_8_code 14 = .ok (.aload_n 0, 1) := by decide +kernel
theorem d_Resolver_resolveSymbol_15 : decode prog_4_method_8_code 15 = .ok (.getfield 15, 3) := by decide +kernel
theorem d_Resolver_resolveSymbol_18 : decode prog_4_method_8_code 18 = .ok (.iload_n 1, 1) := by decide +kernel
theorem d_Resolver_resolveSymbol_19 : decode prog_4_method_8_code 19 = .ok (.aload_n 0, 1) := by decide +kernel
theorem d_Resolver_resolveSymbol_20 : decode prog_4_method_8_code 20 = .ok (.getfield 35, 3) := by decide +kernel
theorem d_Resolver_resolveSymbol_23 : decode prog_4_method_8_code 23 = .ok (.invokevirtual 73, 3) := by decide +kernel
theorem d_Resolver_resolveSymbol_26 : decode prog_4_method_8_code 26 = .ok (.l2i, 1) := by decide +kernel
theorem d_Resolver_resolveSymbol_27 : decode prog_4_method_8_code 27 = .ok (.invokevirtual 125, 3) := by decide +kernel
theorem d_Resolver_resolveSymbol_30 : decode prog_4_method_8_code 30 = .ok (.istore_n 3, 1) := by decide +kernel
theorem d_Resolver_resolveSymbol_31 : decode prog_4_method_8_code 31 = .ok (.aload_n 0, 1) := by decide +kernel
theorem d_Resolver_resolveSymbol_32 : decode prog_4_method_8_code 32 = .ok (.getfield 19, 3) := by decide +kernel
theorem d_Resolver_resolveSymbol_35 : decode prog_4_method_8_code 35 = .ok (.iload_n 2, 1) := by decide +kernel
theorem d_Resolver_resolveSymbol_36 : decode prog_4_method_8_code 36 = .ok (.iload_n 3, 1) := by decide +kernel
theorem d_Resolver_resolveSymbol_37 : decode prog_4_method_8_code 37 = .ok (.invokevirtual 128, 3) := by decide +kernel
theorem d_Resolver_resolveSymbol_40 : decode prog_4_method_8_code 40 = .ok (.iconst (-1), 1) := by decide +kernel
theorem d_Resolver_resolveSymbol_41 : decode prog_4_method_8_code 41 = .ok (.if_icmp .ne 12, 3) := by decide +kernel
theorem d_Resolver_resolveSymbol_44 : decode prog_4_method_8_code 44 = .ok (.aload_n 0, 1) := by decide +kernel
theorem d_Resolver_resolveSymbol_45 : decode prog_4_method_8_code 45 = .ok (.getfield 19, 3) := by decide +kernel
theorem d_Resolver_resolveSymbol_48 : decode prog_4_method_8_code 48 = .ok (.iload_n 2, 1) := by decide +kernel
theorem d_Resolver_resolveSymbol_49 : decode prog_4_method_8_code 49 = .ok (.invokevirtual 131, 3) := by decide +kernel
theorem d_Resolver_resolveSymbol_52 : decode prog_4_method_8_code 52 = .ok (.istore_n 3, 1) := by decide +kernel
theorem d_Resolver_resolveSymbol_53 : decode prog_4_method_8_code 53 = .ok (.iload_n 3, 1) := by decide +kernel
theorem d_Resolver_resolveSymbol_54 : decode prog_4_method_8_code 54 = .ok (.iconst (-1), 1) := by decide +kernel
theorem d_Resolver_resolveSymbol_55 : decode prog_4_method_8_code 55 = .ok (.if_icmp .eq 18, 3) := by decide +kernel
theorem d_Resolver_resolveSymbol_58 : decode prog_4_method_8_code 58 = .ok (.aload_n 0, 1) := by decide +kernel
theorem d_Resolver_resolveSymbol_59 : decode prog_4_method_8_code 59 = .ok (.getfield 22, 3) := by decide +kernel
theorem d_Resolver_resolveSymbol_62 : decode prog_4_method_8_code 62 = .ok (.iload_n 3, 1) := by decide +kernel
theorem d_Resolver_resolveSymbol_63 : decode prog_4_method_8_code 63 = .ok (.invokevirtual 63, 3) := by decide +kernel
theorem d_Resolver_resolveSymbol_66 : decode prog_4_method_8_code 66 = .ok (.ifCond .eq 7, 3) := by decide +kernel
theorem d_Resolver_resolveSymbol_69 : decode prog_4_method_8_code 69 = .ok (.iconst 1, 1) := by decide +kernel
theorem d_Resolver_resolveSymbol_70 : decode prog_4_method_8_code 70 = .ok (.goto 4, 3) := by decide +kernel
theorem d_Resolver_resolveSymbol_73 : decode prog_4_method_8_code 73 = .ok (.iconst 0, 1) := by decide +kernel
theorem d_Resolver_resolveSymbol_74 : decode prog_4_method_8_code 74 = .ok (.ireturn, 1) := by decide +kernel
def Resolver_resolveSymbol_b (call : ax_Cf) (x0 : Option Nat) (x1 : Int32) (x2 : Int32) (h : ax_Hp) : ax_O :=
  (ax_gr h x0 1 1).bind fun v1 =>
  ax_on h v1 5 <| ax_ci (call 115 [ax_A v1, ax_I 7] h) fun v3 h2 =>
  if v3 = 0 then
    ax_rz 0 h2
  else
    (ax_gr h2 x0 1 2).bind fun v4 =>
    (ax_gr h2 x0 1 1).bind fun v5 =>
    ax_on h2 v5 5 <| ax_cl (call 129 [ax_A v5] h2) fun v7 h6 =>
    ax_on h6 v4 3 <| ax_ci (call 79 [ax_A v4, ax_I x1, ax_I (v7.toInt32)] h6) fun v9 h8 =>
    (ax_gr h8 x0 1 3).bind fun v10 =>
    ax_on h8 v10 3 <| ax_ci (call 55 [ax_A v10, ax_I x2, ax_I v9] h8) fun v12 h11 =>
    if v12 = (-1) then
      (ax_gr h11 x0 1 3).bind fun v16 =>
      ax_on h11 v16 3 <| ax_ci (call 76 [ax_A v16, ax_I x2] h11) fun v18 h17 =>
      if v18 = (-1) then
        ax_rz 0 h17
      else
        (ax_gr h17 x0 1 4).bind fun v19 =>
        ax_on h17 v19 2 <| ax_ci (call 8 [ax_A v19, ax_I v18] h17) fun v21 h20 =>
        if v21 = 0 then
          ax_rz 0 h20
        else
          ax_rz 1 h20
    else
      if v9 = (-1) then
        ax_rz 0 h11
      else
        (ax_gr h11 x0 1 4).bind fun v13 =>
        ax_on h11 v13 2 <| ax_ci (call 8 [ax_A v13, ax_I v9] h11) fun v15 h14 =>
        if v15 = 0 then
          ax_rz 0 h14
        else
          ax_rz 1 h14
set_option maxHeartbeats 4000000 in
set_option maxRecDepth 20000 in
theorem Resolver_resolveSymbol_t {l : Launch} {G : ax_G} {d : Nat} {call : ax_Cf} (hcall : ax_Hc l G d call) (x0 : Option Nat) (x1 : Int32) (x2 : Int32) (h : ax_Hp) {r : ax_Rs} {h' : ax_Hp} (ho : Resolver_resolveSymbol_b call x0 x1 x2 h = some (r, h')) : ax_C l G (d + 1) y_Resolver_resolveSymbol (.code y_Resolver_resolveSymbol prog_4_method_8_code 4 (some (.boolean))) [ax_A x0, ax_I x1, ax_I x2] h r h' := by
  refine ax_enter (by decide) (Nat.le_of_ble_eq_true rfl) ho (fun p e s mi args below meth c B E Nm => ?_)
  have B : ax_B G p s mi meth c "SchemaDesk$Resolver" prog_4_method_8_code 4 (some (.boolean)) := B
  show ax_W G p l e s mi args below meth c 4 (d + 1) h 0 [(0, ax_A x0), (1, ax_I x1), (2, ax_I x2)] [] h (Resolver_resolveSymbol_b call x0 x1 x2 h)
  unfold Resolver_resolveSymbol_b
  refine ax_aload_n B 0 d_Resolver_resolveSymbol_0 rfl rfl ?_
  refine ax_getfr B cl_Resolver (by decide) fk_Resolver_35 d_Resolver_resolveSymbol_1 (fun v1 => ?_)
  refine ax_bipush (v := 7) B d_Resolver_resolveSymbol_4 (by decide) ?_
  refine ax_callVi (av := [ax_I 7]) (rest := []) B E hm_StreamReader_readCount cl_StreamReader rfl wd_712 wd_713 lk_Resolver_119 d_Resolver_resolveSymbol_6 rfl (Nat.le_of_ble_eq_true rfl) (fun _ _ hh => hcall 115 _ _ _ _ hh) (fun v3 h2 => ?_)
  refine ax_if_ne B 14 d_Resolver_resolveSymbol_9 (by decide) ?_ ?_
  · refine ax_aload_n B 0 d_Resolver_resolveSymbol_14 rfl rfl ?_
    refine ax_getfr B cl_Resolver (by decide) fk_Resolver_15 d_Resolver_resolveSymbol_15 (fun v4 => ?_)
    refine ax_iload_n B 1 d_Resolver_resolveSymbol_18 rfl rfl ?_
    refine ax_aload_n B 0 d_Resolver_resolveSymbol_19 rfl rfl ?_
    refine ax_getfr B cl_Resolver (by decide) fk_Resolver_35 d_Resolver_resolveSymbol_20 (fun v5 => ?_)
    refine ax_callVl (av := []) (rest := [ax_I x1, ax_A v4]) B E hm_StreamReader_number cl_StreamReader rfl wd_803 wd_804 lk_Resolver_73 d_Resolver_resolveSymbol_23 rfl (Nat.le_of_ble_eq_true rfl) (fun _ _ hh => hcall 129 _ _ _ _ hh) (fun v7 h6 => ?_)
    refine ax_l2i B d_Resolver_resolveSymbol_26 ?_
    refine ax_callVi (av := [ax_I x1, ax_I (v7.toInt32)]) (rest := []) B E hm_Schema_symbol cl_Schema rfl wd_518 wd_519 lk_Resolver_125 d_Resolver_resolveSymbol_27 rfl (Nat.le_of_ble_eq_true rfl) (fun _ _ hh => hcall 79 _ _ _ _ hh) (fun v9 h8 => ?_)
    refine ax_istore_n (tv2 := [(3, ax_I v9), (0, ax_A x0), (1, ax_I x1), (2, ax_I x2)]) B d_Resolver_resolveSymbol_30 rfl (by decide) rfl ?_
    refine ax_aload_n B 1 d_Resolver_resolveSymbol_31 rfl rfl ?_
    refine ax_getfr B cl_Resolver (by decide) fk_Resolver_19 d_Resolver_resolveSymbol_32 (fun v10 => ?_)
    refine ax_iload_n B 3 d_Resolver_resolveSymbol_35 rfl rfl ?_
    refine ax_iload_n B 0 d_Resolver_resolveSymbol_36 rfl rfl ?_
    refine ax_callVi (av := [ax_I x2, ax_I v9]) (rest := []) B E hm_Schema_symbolNumber cl_Schema rfl wd_417 wd_418 lk_Resolver_128 d_Resolver_resolveSymbol_37 rfl (Nat.le_of_ble_eq_true rfl) (fun _ _ hh => hcall 55 _ _ _ _ hh) (fun v12 h11 => ?_)
    refine ax_iconst (v := (-1)) B d_Resolver_resolveSymbol_40 (by decide) ?_
    refine ax_icmp_ne B 53 d_Resolver_resolveSymbol_41 (by decide) ?_ ?_
    · refine ax_iload_n B 0 d_Resolver_resolveSymbol_53 rfl rfl ?_
      refine ax_iconst (v := (-1)) B d_Resolver_resolveSymbol_54 (by decide) ?_
      refine ax_icmp_eq B 73 d_Resolver_resolveSymbol_55 (by decide) ?_ ?_
      · refine ax_iconst (v := 0) B d_Resolver_resolveSymbol_73 (by decide) ?_
        exact ax_zreturn B d_Resolver_resolveSymbol_74
      · refine ax_aload_n B 1 d_Resolver_resolveSymbol_58 rfl rfl ?_
        refine ax_getfr B cl_Resolver (by decide) fk_Resolver_22 d_Resolver_resolveSymbol_59 (fun v13 => ?_)
        refine ax_iload_n B 0 d_Resolver_resolveSymbol_62 rfl rfl ?_
        refine ax_callVi (av := [ax_I v9]) (rest := []) B E hm_Row_add cl_Row rfl wd_123 wd_124 lk_Resolver_63 d_Resolver_resolveSymbol_63 rfl (Nat.le_of_ble_eq_true rfl) (fun _ _ hh => hcall 8 _ _ _ _ hh) (fun v15 h14 => ?_)
        refine ax_if_eq B 73 d_Resolver_resolveSymbol_66 (by decide) ?_ ?_
        · refine ax_iconst (v := 0) B d_Resolver_resolveSymbol_73 (by decide) ?_
          exact ax_zreturn B d_Resolver_resolveSymbol_74
        · refine ax_iconst (v := 1) B d_Resolver_resolveSymbol_69 (by decide) ?_
          refine ax_goto B 74 d_Resolver_resolveSymbol_70 (by decide) ?_
          exact ax_zreturn B d_Resolver_resolveSymbol_74
    · refine ax_aload_n B 1 d_Resolver_resolveSymbol_44 rfl rfl ?_
      refine ax_getfr B cl_Resolver (by decide) fk_Resolver_19 d_Resolver_resolveSymbol_45 (fun v16 => ?_)
      refine ax_iload_n B 3 d_Resolver_resolveSymbol_48 rfl rfl ?_
      refine ax_callVi (av := [ax_I x2]) (rest := []) B E hm_Schema_symbolDefault cl_Schema rfl wd_506 wd_507 lk_Resolver_131 d_Resolver_resolveSymbol_49 rfl (Nat.le_of_ble_eq_true rfl) (fun _ _ hh => hcall 76 _ _ _ _ hh) (fun v18 h17 => ?_)
      refine ax_istore_n (tv2 := [(3, ax_I v18), (0, ax_A x0), (1, ax_I x1), (2, ax_I x2)]) B d_Resolver_resolveSymbol_52 rfl (by decide) rfl ?_
      refine ax_iload_n B 0 d_Resolver_resolveSymbol_53 rfl rfl ?_
      refine ax_iconst (v := (-1)) B d_Resolver_resolveSymbol_54 (by decide) ?_
      refine ax_icmp_eq B 73 d_Resolver_resolveSymbol_55 (by decide) ?_ ?_
      · refine ax_iconst (v := 0) B d_Resolver_resolveSymbol_73 (by decide) ?_
        exact ax_zreturn B d_Resolver_resolveSymbol_74
      · refine ax_aload_n B 1 d_Resolver_resolveSymbol_58 rfl rfl ?_
        refine ax_getfr B cl_Resolver (by decide) fk_Resolver_22 d_Resolver_resolveSymbol_59 (fun v19 => ?_)
        refine ax_iload_n B 0 d_Resolver_resolveSymbol_62 rfl rfl ?_
        refine ax_callVi (av := [ax_I v18]) (rest := []) B E hm_Row_add cl_Row rfl wd_123 wd_124 lk_Resolver_63 d_Resolver_resolveSymbol_63 rfl (Nat.le_of_ble_eq_true rfl) (fun _ _ hh => hcall 8 _ _ _ _ hh) (fun v21 h20 => ?_)
        refine ax_if_eq B 73 d_Resolver_resolveSymbol_66 (by decide) ?_ ?_
        · refine ax_iconst (v := 0) B d_Resolver_resolveSymbol_73 (by decide) ?_
          exact ax_zreturn B d_Resolver_resolveSymbol_74
        · refine ax_iconst (v := 1) B d_Resolver_resolveSymbol_69 (by decide) ?_
          refine ax_goto B 74 d_Resolver_resolveSymbol_70 (by decide) ?_
          exact ax_zreturn B d_Resolver_resolveSymbol_74
  · refine ax_iconst (v := 0) B d_Resolver_resolveSymbol_12 (by decide) ?_
    exact ax_zreturn B d_Resolver_resolveSymbol_13

theorem d_Resolver_resolveElements_0 : decode prog_4_method_9_code 0 = .ok (.aload_n 0, 1) := by decide +kernel
theorem d_Resolver_resolveElements_1 : decode prog_4_method_9_code 1 = .ok (.getfield 22, 3) := by decide +kernel
theorem d_Resolver_resolveElements_4 : decode prog_4_method_9_code 4 = .ok (.bipush 91, 2) := by decide +kernel
theorem d_Resolver_resolveElements_6 : decode prog_4_method_9_code 6 = .ok (.invokevirtual 63, 3) := by decide +kernel
theorem d_Resolver_resolveElements_9 : decode prog_4_method_9_code 9 = .ok (.ifCond .ne 5, 3) := by decide +kernel
theorem d_Resolver_resolveElements_12 : decode prog_4_method_9_code 12 = .ok (.iconst 0, 1) := by decide +kernel
theorem d_Resolver_resolveElements_13 : decode prog_4_method_9_code 13 = .ok (.ireturn, 1) := by decide +kernel
theorem d_Resolver_resolveElements_14 : decode prog_4_method_9_code 14 = .ok (.bipush 20, 2) := by decide +kernel
theorem d_Resolver_resolveElements_16 : decode prog_4_method_9_code 16 = .ok (.istore 4, 2) := by decide +kernel
theorem d_Resolver_resolveElements_18 : decode prog_4_method_9_code 18 = .ok (.iconst 0, 1) := by decide +kernel
theorem d_Resolver_resolveElements_19 : decode prog_4_method_9_code 19 = .ok (.istore 5, 2) := by decide +kernel
theorem d_Resolver_resolveElements_21 : decode prog_4_method_9_code 21 = .ok (.iload 5, 2) := by decide +kernel
theorem d_Resolver_resolveElements_23 : decode prog_4_method_9_code 23 = .ok (.bipush 20, 2) := by decide +kernel
theorem d_Resolver_resolveElements_25 : decode prog_4_method_9_code 25 = .ok (.if_icmp .gt 116, 3) := by decide +kernel
theorem d_Resolver_resolveElements_28 : decode prog_4_method_9_code 28 = .ok (.aload_n 0, 1) := by decide +kernel
theorem d_Resolver_resolveElements_29 : decode prog_4_method_9_code 29 = .ok (.getfield 35, 3) := by decide +kernel
theorem d_Resolver_resolveElements_32 : decode prog_4_method_9_code 32 = .ok (.iload 4, 2) := by decide +kernel
theorem d_Resolver_resolveElements_34 : decode prog_4_method_9_code 34 = .ok (.invokevirtual 119, 3) := by decide +kernel
theorem d_Resolver_resolveElements_37 : decode prog_4_method_9_code 37 = .ok (.ifCond .ne 5, 3) := by decide +kernel
theorem d_Resolver_resolveElements_40 : decode prog_4_method_9_code 40 = .ok (.iconst 0, 1) := by decide +kernel
theorem d_Resolver_resolveElements_41 : decode prog_4_method_9_code 41 = .ok (.ireturn, 1) := by decide +kernel
theorem d_Resolver_resolveElements_42 : decode prog_4_method_9_code 42 = .ok (.aload_n 0, 1) := by decide +kernel
theorem d_Resolver_resolveElements_43 : decode prog_4_method_9_code 43 = .ok (.getfield 35, 3) := by decide +kernel
theorem d_Resolver_resolveElements_46 : decode prog_4_method_9_code 46 = .ok (.invokevirtual 73, 3) := by decide +kernel
theorem d_Resolver_resolveElements_49 : decode prog_4_method_9_code 49 = .ok (.l2i, 1) := by decide +kernel
theorem d_Resolver_resolveElements_50 : decode prog_4_method_9_code 50 = .ok (.istore 6, 2) := by decide +kernel
theorem d_Resolver_resolveElements_52 : decode prog_4_method_9_code 52 = .ok (.iload 6, 2) := by decide +kernel
theorem d_Resolver_resolveElements_54 : decode prog_4_method_9_code 54 = .ok (.ifCond .ne 13, 3) := by decide +kernel
theorem d_Resolver_resolveElements_57 : decode prog_4_method_9_code 57 = .ok (.aload_n 0, 1) := by decide +kernel
theorem d_Resolver_resolveElements_58 : decode prog_4_method_9_code 58 = .ok (.getfield 22, 3) := by decide +kernel
theorem d_Resolver_resolveElements_61 : decode prog_4_method_9_code 61 = .ok (.bipush 93, 2) := by decide +kernel
theorem d_Resolver_resolveElements_63 : decode prog_4_method_9_code 63 = .ok (.invokevirtual 63, 3) := by decide +kernel
theorem d_Resolver_resolveElements_66 : decode prog_4_method_9_code 66 = .ok (.ireturn, 1) := by decide +kernel
theorem d_Resolver_resolveElements_67 : decode prog_4_method_9_code 67 = .ok (.iconst 0, 1) := by decide +kernel
theorem d_Resolver_resolveElements_68 : decode prog_4_method_9_code 68 = .ok (.istore 7, 2) := by decide +kernel
theorem d_Resolver_resolveElements_70 : decode prog_4_method_9_code 70 = .ok (.iload 7, 2) := by decide +kernel
theorem d_Resolver_resolveElements_72 : decode prog_4_method_9_code 72 = .ok (.iload 6, 2) := by decide +kernel
theorem d_Resolver_resolveElements_74 : decode prog_4_method_9_code 74 = .ok (.if_icmp .ge 61, 3) := by decide +kernel
theorem d_Resolver_resolveElements_77 : decode prog_4_method_9_code 77 = .ok (.iload 4, 2) := by decide +kernel
theorem d_Resolver_resolveElements_79 : decode prog_4_method_9_code 79 = .ok (.bipush 20, 2) := by decide +kernel
theorem d_Resolver_resolveElements_81 : decode prog_4_method_9_code 81 = .ok (.if_icmp .ge 17, 3) := by decide +kernel
theorem d_Resolver_resolveElements_84 : decode prog_4_method_9_code 84 = .ok (.aload_n 0, 1) := by decide +kernel
theorem d_Resolver_resolveElements_85 : decode prog_4_method_9_code 85 = .ok (.getfield 22, 3) := by decide +kernel
theorem d_Resolver_resolveElements_88 : decode prog_4_method_9_code 88 = .ok (.bipush 44, 2) := by decide +kernel
theorem d_Resolver_resolveElements_90 : decode prog_4_method_9_code 90 = .ok (.invokevirtual 63, 3) := by decide +kernel
theorem d_Resolver_resolveElements_93 : decode prog_4_method_9_code 93 = .ok (.ifCond .ne 5, 3) := by decide +kernel
theorem d_Resolver_resolveElements_96 : decode prog_4_method_9_code 96 = .ok (.iconst 0, 1) := by decide +kernel
theorem d_Resolver_resolveElements_97 : decode prog_4_method_9_code 97 = .ok (.ireturn, 1) := by decide +kernel
theorem d_Resolver_resolveElements_98 : decode prog_4_method_9_code 98 = .ok (.iinc 4 (-1), 3) := by decide +kernel
theorem d_Resolver_resolveElements_101 : decode prog_4_method_9_code 101 = .ok (.aload_n 0, 1) := by decide +kernel
theorem d_Resolver_resolveElements_102 : decode prog_4_method_9_code 102 = .ok (.aload_n 0, 1) := by decide +kernel
theorem d_Resolver_resolveElements_103 : decode prog_4_method_9_code 103 = .ok (.getfield 15, 3) := by decide +kernel
theorem d_Resolver_resolveElements_106 : decode prog_4_method_9_code 106 = .ok (.iload_n 1, 1) := by decide +kernel
theorem d_Resolver_resolveElements_107 : decode prog_4_method_9_code 107 = .ok (.invokevirtual 134, 3) := by decide +kernel
theorem d_Resolver_resolveElements_110 : decode prog_4_method_9_code 110 = .ok (.aload_n 0, 1) := by decide +kernel
theorem d_Resolver_resolveElements_111 : decode prog_4_method_9_code 111 = .ok (.getfield 19, 3) := by decide +kernel
theorem d_Resolver_resolveElements_114 : decode prog_4_method_9_code 114 = .ok (.iload_n 2, 1) := by decide +kernel
theorem d_Resolver_resolveElements_115 : decode prog_4_method_9_code 115 = .ok (.invokevirtual 134, 3) := by decide +kernel
theorem d_Resolver_resolveElements_118 : decode prog_4_method_9_code 118 = .ok (.iload_n 3, 1) := by decide +kernel
theorem d_Resolver_resolveElements_119 : decode prog_4_method_9_code 119 = .ok (.iconst 1, 1) := by decide +kernel
theorem d_Resolver_resolveElements_120 : decode prog_4_method_9_code 120 = .ok (.iadd, 1) := by decide +kernel
theorem d_Resolver_resolveElements_121 : decode prog_4_method_9_code 121 = .ok (.invokevirtual 45, 3) := by decide +kernel
theorem d_Resolver_resolveElements_124 : decode prog_4_method_9_code 124 = .ok (.ifCond .ne 5, 3) := by decide +kernel
theorem d_Resolver_resolveElements_127 : decode prog_4_method_9_code 127 = .ok (.iconst 0, 1) := by decide +kernel
theorem d_Resolver_resolveElements_128 : decode prog_4_method_9_code 128 = .ok (.ireturn, 1) := by decide +kernel
theorem d_Resolver_resolveElements_129 : decode prog_4_method_9_code 129 = .ok (.iinc 7 1, 3) := by decide +kernel
theorem d_Resolver_resolveElements_132 : decode prog_4_method_9_code 132 = .ok (.goto (-62), 3) := by decide +kernel
theorem d_Resolver_resolveElements_135 : decode prog_4_method_9_code 135 = .ok (.iinc 5 1, 3) := by decide +kernel
theorem d_Resolver_resolveElements_138 : decode prog_4_method_9_code 138 = .ok (.goto (-117), 3) := by decide +kernel
theorem d_Resolver_resolveElements_141 : decode prog_4_method_9_code 141 = .ok (.iconst 0, 1) := by decide +kernel
theorem d_Resolver_resolveElements_142 : decode prog_4_method_9_code 142 = .ok (.ireturn, 1) := by decide +kernel
def Resolver_resolveElements_bd70 (call : ax_Cf) (k21 : Option Nat → Int32 → Int32 → Int32 → Int32 → Int32 → ax_Hp → ax_O) (k70 : Option Nat → Int32 → Int32 → Int32 → Int32 → Int32 → Int32 → Int32 → ax_Hp → ax_O) (x0 : Option Nat) (x1 : Int32) (x2 : Int32) (x3 : Int32) (x4 : Int32) (x5 : Int32) (x6 : Int32) (x7 : Int32) (h : ax_Hp) : ax_O :=
  if x6 ≤ x7 then
    k21 x0 x1 x2 x3 x4 (x5 + 1) h
  else
    if 20 ≤ x4 then
      (ax_gr h x0 1 2).bind fun v10 =>
      ax_on h v10 3 <| ax_ci (call 57 [ax_A v10, ax_I x1] h) fun v12 h11 =>
      (ax_gr h11 x0 1 3).bind fun v13 =>
      ax_on h11 v13 3 <| ax_ci (call 57 [ax_A v13, ax_I x2] h11) fun v15 h14 =>
      ax_on h14 x0 1 <| ax_ci (call 126 [ax_A x0, ax_I v12, ax_I v15, ax_I (x3 + 1)] h14) fun v17 h16 =>
      if v17 = 0 then
        ax_rz 0 h16
      else
        k70 x0 x1 x2 x3 (x4 + (-1)) x5 x6 (x7 + 1) h16
    else
      (ax_gr h x0 1 4).bind fun v18 =>
      ax_on h v18 2 <| ax_ci (call 8 [ax_A v18, ax_I 44] h) fun v20 h19 =>
      if v20 = 0 then
        ax_rz 0 h19
      else
        (ax_gr h19 x0 1 2).bind fun v21 =>
        ax_on h19 v21 3 <| ax_ci (call 57 [ax_A v21, ax_I x1] h19) fun v23 h22 =>
        (ax_gr h22 x0 1 3).bind fun v24 =>
        ax_on h22 v24 3 <| ax_ci (call 57 [ax_A v24, ax_I x2] h22) fun v26 h25 =>
        ax_on h25 x0 1 <| ax_ci (call 126 [ax_A x0, ax_I v23, ax_I v26, ax_I (x3 + 1)] h25) fun v28 h27 =>
        if v28 = 0 then
          ax_rz 0 h27
        else
          k70 x0 x1 x2 x3 (x4 + (-1)) x5 x6 (x7 + 1) h27
def Resolver_resolveElements_lp70 (call : ax_Cf) (k21 : Option Nat → Int32 → Int32 → Int32 → Int32 → Int32 → ax_Hp → ax_O) : Nat → Option Nat → Int32 → Int32 → Int32 → Int32 → Int32 → Int32 → Int32 → ax_Hp → ax_O
  | 0 => fun _ _ _ _ _ _ _ _ _ => none
  | n + 1 => Resolver_resolveElements_bd70 call k21 (Resolver_resolveElements_lp70 call k21 n)
set_option maxHeartbeats 4000000 in
set_option maxRecDepth 20000 in
theorem Resolver_resolveElements_lb70 {l : Launch} {G : ax_G} {d : Nat} {call : ax_Cf} (hcall : ax_Hc l G d call) {p : Program} {e : Env} {s : State} {mi : MethodId} {args : Array Value} {below : List Frame} {meth : Method} {c : Code} {h0 : ax_Hp} (B : ax_B G p s mi meth c "SchemaDesk$Resolver" prog_4_method_9_code 8 (some (.boolean))) (E : c.exceptionTable.isEmpty = true) (Nm : meth.name = y_Resolver_resolveElements.name) (k21 : Option Nat → Int32 → Int32 → Int32 → Int32 → Int32 → ax_Hp → ax_O) (hk21 : ∀ (x0 : Option Nat) (x1 : Int32) (x2 : Int32) (x3 : Int32) (x4 : Int32) (x5 : Int32) (h : ax_Hp), ax_W G p l e s mi args below meth c 8 (d + 1) h0 21 [(0, ax_A x0), (1, ax_I x1), (2, ax_I x2), (3, ax_I x3), (4, ax_I x4), (5, ax_I x5)] [] h (k21 x0 x1 x2 x3 x4 x5 h)) {k70 : Option Nat → Int32 → Int32 → Int32 → Int32 → Int32 → Int32 → Int32 → ax_Hp → ax_O} (hk70 : ∀ (x0 : Option Nat) (x1 : Int32) (x2 : Int32) (x3 : Int32) (x4 : Int32) (x5 : Int32) (x6 : Int32) (x7 : Int32) (h : ax_Hp), ax_W G p l e s mi args below meth c 8 (d + 1) h0 70 [(0, ax_A x0), (1, ax_I x1), (2, ax_I x2), (3, ax_I x3), (4, ax_I x4), (5, ax_I x5), (6, ax_I x6), (7, ax_I x7)] [] h (k70 x0 x1 x2 x3 x4 x5 x6 x7 h)) (x0 : Option Nat) (x1 : Int32) (x2 : Int32) (x3 : Int32) (x4 : Int32) (x5 : Int32) (x6 : Int32) (x7 : Int32) (h : ax_Hp) : ax_W G p l e s mi args below meth c 8 (d + 1) h0 70 [(0, ax_A x0), (1, ax_I x1), (2, ax_I x2), (3, ax_I x3), (4, ax_I x4), (5, ax_I x5), (6, ax_I x6), (7, ax_I x7)] [] h (Resolver_resolveElements_bd70 call k21 k70 x0 x1 x2 x3 x4 x5 x6 x7 h) := by
  unfold Resolver_resolveElements_bd70
  refine ax_iload B 7 d_Resolver_resolveElements_70 rfl ?_
  refine ax_iload B 6 d_Resolver_resolveElements_72 rfl ?_
  refine ax_icmp_ge B 135 d_Resolver_resolveElements_74 (by decide) ?_ ?_
  · refine ax_iinc (v := x5 + 1) (tv2 := [(5, ax_I (x5 + 1)), (0, ax_A x0), (1, ax_I x1), (2, ax_I x2), (3, ax_I x3), (4, ax_I x4), (6, ax_I x6), (7, ax_I x7)]) B 5 d_Resolver_resolveElements_135 rfl (congrArg (_ + ·) (by decide)) (by decide) rfl ?_
    refine ax_goto B 21 d_Resolver_resolveElements_138 (by decide) ?_
    refine ax_sub (tv2 := [(0, ax_A x0), (1, ax_I x1), (2, ax_I x2), (3, ax_I x3), (4, ax_I x4), (5, ax_I (x5 + 1))]) [1, 2, 3, 4, 5, 0] rfl ?_
    exact hk21 x0 x1 x2 x3 x4 (x5 + 1) h
  · refine ax_iload B 4 d_Resolver_resolveElements_77 rfl ?_
    refine ax_bipush (v := 20) B d_Resolver_resolveElements_79 (by decide) ?_
    refine ax_icmp_ge B 98 d_Resolver_resolveElements_81 (by decide) ?_ ?_
    · refine ax_iinc (v := x4 + (-1)) (tv2 := [(4, ax_I (x4 + (-1))), (0, ax_A x0), (1, ax_I x1), (2, ax_I x2), (3, ax_I x3), (5, ax_I x5), (6, ax_I x6), (7, ax_I x7)]) B 4 d_Resolver_resolveElements_98 rfl (congrArg (_ + ·) (by decide)) (by decide) rfl ?_
      refine ax_aload_n B 1 d_Resolver_resolveElements_101 rfl rfl ?_
      refine ax_aload_n B 1 d_Resolver_resolveElements_102 rfl rfl ?_
      refine ax_getfr B cl_Resolver (by decide) fk_Resolver_15 d_Resolver_resolveElements_103 (fun v10 => ?_)
      refine ax_iload_n B 2 d_Resolver_resolveElements_106 rfl rfl ?_
      refine ax_callVi (av := [ax_I x1]) (rest := [ax_A x0]) B E hm_Schema_element cl_Schema rfl wd_426 wd_427 lk_Resolver_134 d_Resolver_resolveElements_107 rfl (Nat.le_of_ble_eq_true rfl) (fun _ _ hh => hcall 57 _ _ _ _ hh) (fun v12 h11 => ?_)
      refine ax_aload_n B 1 d_Resolver_resolveElements_110 rfl rfl ?_
      refine ax_getfr B cl_Resolver (by decide) fk_Resolver_19 d_Resolver_resolveElements_111 (fun v13 => ?_)
      refine ax_iload_n B 3 d_Resolver_resolveElements_114 rfl rfl ?_
      refine ax_callVi (av := [ax_I x2]) (rest := [ax_I v12, ax_A x0]) B E hm_Schema_element cl_Schema rfl wd_426 wd_427 lk_Resolver_134 d_Resolver_resolveElements_115 rfl (Nat.le_of_ble_eq_true rfl) (fun _ _ hh => hcall 57 _ _ _ _ hh) (fun v15 h14 => ?_)
      refine ax_iload_n B 4 d_Resolver_resolveElements_118 rfl rfl ?_
      refine ax_iconst (v := 1) B d_Resolver_resolveElements_119 (by decide) ?_
      refine ax_iadd B d_Resolver_resolveElements_120 ?_
      refine ax_callVi (av := [ax_I v12, ax_I v15, ax_I (x3 + 1)]) (rest := []) B E hm_Resolver_resolve cl_Resolver rfl wd_788 wp_28 lk_Resolver_45 d_Resolver_resolveElements_121 rfl (Nat.le_of_ble_eq_true rfl) (fun _ _ hh => hcall 126 _ _ _ _ hh) (fun v17 h16 => ?_)
      refine ax_if_ne B 129 d_Resolver_resolveElements_124 (by decide) ?_ ?_
      · refine ax_iinc (v := x7 + 1) (tv2 := [(7, ax_I (x7 + 1)), (4, ax_I (x4 + (-1))), (0, ax_A x0), (1, ax_I x1), (2, ax_I x2), (3, ax_I x3), (5, ax_I x5), (6, ax_I x6)]) B 7 d_Resolver_resolveElements_129 rfl (congrArg (_ + ·) (by decide)) (by decide) rfl ?_
        refine ax_goto B 70 d_Resolver_resolveElements_132 (by decide) ?_
        refine ax_sub (tv2 := [(0, ax_A x0), (1, ax_I x1), (2, ax_I x2), (3, ax_I x3), (4, ax_I (x4 + (-1))), (5, ax_I x5), (6, ax_I x6), (7, ax_I (x7 + 1))]) [2, 3, 4, 5, 1, 6, 7, 0] rfl ?_
        exact hk70 x0 x1 x2 x3 (x4 + (-1)) x5 x6 (x7 + 1) h16
      · refine ax_iconst (v := 0) B d_Resolver_resolveElements_127 (by decide) ?_
        exact ax_zreturn B d_Resolver_resolveElements_128
    · refine ax_aload_n B 0 d_Resolver_resolveElements_84 rfl rfl ?_
      refine ax_getfr B cl_Resolver (by decide) fk_Resolver_22 d_Resolver_resolveElements_85 (fun v18 => ?_)
      refine ax_bipush (v := 44) B d_Resolver_resolveElements_88 (by decide) ?_
      refine ax_callVi (av := [ax_I 44]) (rest := []) B E hm_Row_add cl_Row rfl wd_123 wd_124 lk_Resolver_63 d_Resolver_resolveElements_90 rfl (Nat.le_of_ble_eq_true rfl) (fun _ _ hh => hcall 8 _ _ _ _ hh) (fun v20 h19 => ?_)
      refine ax_if_ne B 98 d_Resolver_resolveElements_93 (by decide) ?_ ?_
      · refine ax_iinc (v := x4 + (-1)) (tv2 := [(4, ax_I (x4 + (-1))), (0, ax_A x0), (1, ax_I x1), (2, ax_I x2), (3, ax_I x3), (5, ax_I x5), (6, ax_I x6), (7, ax_I x7)]) B 4 d_Resolver_resolveElements_98 rfl (congrArg (_ + ·) (by decide)) (by decide) rfl ?_
        refine ax_aload_n B 1 d_Resolver_resolveElements_101 rfl rfl ?_
        refine ax_aload_n B 1 d_Resolver_resolveElements_102 rfl rfl ?_
        refine ax_getfr B cl_Resolver (by decide) fk_Resolver_15 d_Resolver_resolveElements_103 (fun v21 => ?_)
        refine ax_iload_n B 2 d_Resolver_resolveElements_106 rfl rfl ?_
        refine ax_callVi (av := [ax_I x1]) (rest := [ax_A x0]) B E hm_Schema_element cl_Schema rfl wd_426 wd_427 lk_Resolver_134 d_Resolver_resolveElements_107 rfl (Nat.le_of_ble_eq_true rfl) (fun _ _ hh => hcall 57 _ _ _ _ hh) (fun v23 h22 => ?_)
        refine ax_aload_n B 1 d_Resolver_resolveElements_110 rfl rfl ?_
        refine ax_getfr B cl_Resolver (by decide) fk_Resolver_19 d_Resolver_resolveElements_111 (fun v24 => ?_)
        refine ax_iload_n B 3 d_Resolver_resolveElements_114 rfl rfl ?_
        refine ax_callVi (av := [ax_I x2]) (rest := [ax_I v23, ax_A x0]) B E hm_Schema_element cl_Schema rfl wd_426 wd_427 lk_Resolver_134 d_Resolver_resolveElements_115 rfl (Nat.le_of_ble_eq_true rfl) (fun _ _ hh => hcall 57 _ _ _ _ hh) (fun v26 h25 => ?_)
        refine ax_iload_n B 4 d_Resolver_resolveElements_118 rfl rfl ?_
        refine ax_iconst (v := 1) B d_Resolver_resolveElements_119 (by decide) ?_
        refine ax_iadd B d_Resolver_resolveElements_120 ?_
        refine ax_callVi (av := [ax_I v23, ax_I v26, ax_I (x3 + 1)]) (rest := []) B E hm_Resolver_resolve cl_Resolver rfl wd_788 wp_28 lk_Resolver_45 d_Resolver_resolveElements_121 rfl (Nat.le_of_ble_eq_true rfl) (fun _ _ hh => hcall 126 _ _ _ _ hh) (fun v28 h27 => ?_)
        refine ax_if_ne B 129 d_Resolver_resolveElements_124 (by decide) ?_ ?_
        · refine ax_iinc (v := x7 + 1) (tv2 := [(7, ax_I (x7 + 1)), (4, ax_I (x4 + (-1))), (0, ax_A x0), (1, ax_I x1), (2, ax_I x2), (3, ax_I x3), (5, ax_I x5), (6, ax_I x6)]) B 7 d_Resolver_resolveElements_129 rfl (congrArg (_ + ·) (by decide)) (by decide) rfl ?_
          refine ax_goto B 70 d_Resolver_resolveElements_132 (by decide) ?_
          refine ax_sub (tv2 := [(0, ax_A x0), (1, ax_I x1), (2, ax_I x2), (3, ax_I x3), (4, ax_I (x4 + (-1))), (5, ax_I x5), (6, ax_I x6), (7, ax_I (x7 + 1))]) [2, 3, 4, 5, 1, 6, 7, 0] rfl ?_
          exact hk70 x0 x1 x2 x3 (x4 + (-1)) x5 x6 (x7 + 1) h27
        · refine ax_iconst (v := 0) B d_Resolver_resolveElements_127 (by decide) ?_
          exact ax_zreturn B d_Resolver_resolveElements_128
      · refine ax_iconst (v := 0) B d_Resolver_resolveElements_96 (by decide) ?_
        exact ax_zreturn B d_Resolver_resolveElements_97
theorem Resolver_resolveElements_lq70 {l : Launch} {G : ax_G} {d : Nat} {call : ax_Cf} (hcall : ax_Hc l G d call) {p : Program} {e : Env} {s : State} {mi : MethodId} {args : Array Value} {below : List Frame} {meth : Method} {c : Code} {h0 : ax_Hp} (B : ax_B G p s mi meth c "SchemaDesk$Resolver" prog_4_method_9_code 8 (some (.boolean))) (E : c.exceptionTable.isEmpty = true) (Nm : meth.name = y_Resolver_resolveElements.name) (k21 : Option Nat → Int32 → Int32 → Int32 → Int32 → Int32 → ax_Hp → ax_O) (hk21 : ∀ (x0 : Option Nat) (x1 : Int32) (x2 : Int32) (x3 : Int32) (x4 : Int32) (x5 : Int32) (h : ax_Hp), ax_W G p l e s mi args below meth c 8 (d + 1) h0 21 [(0, ax_A x0), (1, ax_I x1), (2, ax_I x2), (3, ax_I x3), (4, ax_I x4), (5, ax_I x5)] [] h (k21 x0 x1 x2 x3 x4 x5 h)) : ∀ (n : Nat) (x0 : Option Nat) (x1 : Int32) (x2 : Int32) (x3 : Int32) (x4 : Int32) (x5 : Int32) (x6 : Int32) (x7 : Int32) (h : ax_Hp), ax_W G p l e s mi args below meth c 8 (d + 1) h0 70 [(0, ax_A x0), (1, ax_I x1), (2, ax_I x2), (3, ax_I x3), (4, ax_I x4), (5, ax_I x5), (6, ax_I x6), (7, ax_I x7)] [] h (Resolver_resolveElements_lp70 call k21 n x0 x1 x2 x3 x4 x5 x6 x7 h)
  | 0, _, _, _, _, _, _, _, _, _ => ax_none
  | n + 1, x0, x1, x2, x3, x4, x5, x6, x7, h => Resolver_resolveElements_lb70 hcall B E Nm k21 hk21 (Resolver_resolveElements_lq70 hcall B E Nm k21 hk21 n) x0 x1 x2 x3 x4 x5 x6 x7 h
def Resolver_resolveElements_bd21 (call : ax_Cf)  (k21 : Option Nat → Int32 → Int32 → Int32 → Int32 → Int32 → ax_Hp → ax_O) (x0 : Option Nat) (x1 : Int32) (x2 : Int32) (x3 : Int32) (x4 : Int32) (x5 : Int32) (h : ax_Hp) : ax_O :=
  if 20 < x5 then
    ax_rz 0 h
  else
    (ax_gr h x0 1 1).bind fun v4 =>
    ax_on h v4 5 <| ax_ci (call 115 [ax_A v4, ax_I x4] h) fun v6 h5 =>
    if v6 = 0 then
      ax_rz 0 h5
    else
      (ax_gr h5 x0 1 1).bind fun v7 =>
      ax_on h5 v7 5 <| ax_cl (call 129 [ax_A v7] h5) fun v9 h8 =>
      if (v9.toInt32) = 0 then
        (ax_gr h8 x0 1 4).bind fun v29 =>
        ax_on h8 v29 2 <| ax_ci (call 8 [ax_A v29, ax_I 93] h8) fun v31 h30 =>
        ax_rz v31 h30
      else
        Resolver_resolveElements_lp70 call k21 ax_fuel x0 x1 x2 x3 x4 x5 (v9.toInt32) 0 h8
def Resolver_resolveElements_lp21 (call : ax_Cf)  : Nat → Option Nat → Int32 → Int32 → Int32 → Int32 → Int32 → ax_Hp → ax_O
  | 0 => fun _ _ _ _ _ _ _ => none
  | n + 1 => Resolver_resolveElements_bd21 call  (Resolver_resolveElements_lp21 call  n)
set_option maxHeartbeats 4000000 in
set_option maxRecDepth 20000 in
theorem Resolver_resolveElements_lb21 {l : Launch} {G : ax_G} {d : Nat} {call : ax_Cf} (hcall : ax_Hc l G d call) {p : Program} {e : Env} {s : State} {mi : MethodId} {args : Array Value} {below : List Frame} {meth : Method} {c : Code} {h0 : ax_Hp} (B : ax_B G p s mi meth c "SchemaDesk$Resolver" prog_4_method_9_code 8 (some (.boolean))) (E : c.exceptionTable.isEmpty = true) (Nm : meth.name = y_Resolver_resolveElements.name)   {k21 : Option Nat → Int32 → Int32 → Int32 → Int32 → Int32 → ax_Hp → ax_O} (hk21 : ∀ (x0 : Option Nat) (x1 : Int32) (x2 : Int32) (x3 : Int32) (x4 : Int32) (x5 : Int32) (h : ax_Hp), ax_W G p l e s mi args below meth c 8 (d + 1) h0 21 [(0, ax_A x0), (1, ax_I x1), (2, ax_I x2), (3, ax_I x3), (4, ax_I x4), (5, ax_I x5)] [] h (k21 x0 x1 x2 x3 x4 x5 h)) (x0 : Option Nat) (x1 : Int32) (x2 : Int32) (x3 : Int32) (x4 : Int32) (x5 : Int32) (h : ax_Hp) : ax_W G p l e s mi args below meth c 8 (d + 1) h0 21 [(0, ax_A x0), (1, ax_I x1), (2, ax_I x2), (3, ax_I x3), (4, ax_I x4), (5, ax_I x5)] [] h (Resolver_resolveElements_bd21 call  k21 x0 x1 x2 x3 x4 x5 h) := by
  unfold Resolver_resolveElements_bd21
  refine ax_iload B 5 d_Resolver_resolveElements_21 rfl ?_
  refine ax_bipush (v := 20) B d_Resolver_resolveElements_23 (by decide) ?_
  refine ax_icmp_gt B 141 d_Resolver_resolveElements_25 (by decide) ?_ ?_
  · refine ax_iconst (v := 0) B d_Resolver_resolveElements_141 (by decide) ?_
    exact ax_zreturn B d_Resolver_resolveElements_142
  · refine ax_aload_n B 0 d_Resolver_resolveElements_28 rfl rfl ?_
    refine ax_getfr B cl_Resolver (by decide) fk_Resolver_35 d_Resolver_resolveElements_29 (fun v4 => ?_)
    refine ax_iload B 4 d_Resolver_resolveElements_32 rfl ?_
    refine ax_callVi (av := [ax_I x4]) (rest := []) B E hm_StreamReader_readCount cl_StreamReader rfl wd_712 wd_713 lk_Resolver_119 d_Resolver_resolveElements_34 rfl (Nat.le_of_ble_eq_true rfl) (fun _ _ hh => hcall 115 _ _ _ _ hh) (fun v6 h5 => ?_)
    refine ax_if_ne B 42 d_Resolver_resolveElements_37 (by decide) ?_ ?_
    · refine ax_aload_n B 0 d_Resolver_resolveElements_42 rfl rfl ?_
      refine ax_getfr B cl_Resolver (by decide) fk_Resolver_35 d_Resolver_resolveElements_43 (fun v7 => ?_)
      refine ax_callVl (av := []) (rest := []) B E hm_StreamReader_number cl_StreamReader rfl wd_803 wd_804 lk_Resolver_73 d_Resolver_resolveElements_46 rfl (Nat.le_of_ble_eq_true rfl) (fun _ _ hh => hcall 129 _ _ _ _ hh) (fun v9 h8 => ?_)
      refine ax_l2i B d_Resolver_resolveElements_49 ?_
      refine ax_istore (tv2 := [(6, ax_I (v9.toInt32)), (0, ax_A x0), (1, ax_I x1), (2, ax_I x2), (3, ax_I x3), (4, ax_I x4), (5, ax_I x5)]) B d_Resolver_resolveElements_50 (by decide) rfl ?_
      refine ax_iload B 0 d_Resolver_resolveElements_52 rfl ?_
      refine ax_if_ne B 67 d_Resolver_resolveElements_54 (by decide) ?_ ?_
      · refine ax_iconst (v := 0) B d_Resolver_resolveElements_67 (by decide) ?_
        refine ax_istore (tv2 := [(7, ax_I 0), (6, ax_I (v9.toInt32)), (0, ax_A x0), (1, ax_I x1), (2, ax_I x2), (3, ax_I x3), (4, ax_I x4), (5, ax_I x5)]) B d_Resolver_resolveElements_68 (by decide) rfl ?_
        refine ax_sub (tv2 := [(0, ax_A x0), (1, ax_I x1), (2, ax_I x2), (3, ax_I x3), (4, ax_I x4), (5, ax_I x5), (6, ax_I (v9.toInt32)), (7, ax_I 0)]) [2, 3, 4, 5, 6, 7, 1, 0] rfl ?_
        exact Resolver_resolveElements_lq70 hcall B E Nm k21 hk21 ax_fuel x0 x1 x2 x3 x4 x5 (v9.toInt32) 0 h8
      · refine ax_aload_n B 1 d_Resolver_resolveElements_57 rfl rfl ?_
        refine ax_getfr B cl_Resolver (by decide) fk_Resolver_22 d_Resolver_resolveElements_58 (fun v29 => ?_)
        refine ax_bipush (v := 93) B d_Resolver_resolveElements_61 (by decide) ?_
        refine ax_callVi (av := [ax_I 93]) (rest := []) B E hm_Row_add cl_Row rfl wd_123 wd_124 lk_Resolver_63 d_Resolver_resolveElements_63 rfl (Nat.le_of_ble_eq_true rfl) (fun _ _ hh => hcall 8 _ _ _ _ hh) (fun v31 h30 => ?_)
        exact ax_zreturn B d_Resolver_resolveElements_66
    · refine ax_iconst (v := 0) B d_Resolver_resolveElements_40 (by decide) ?_
      exact ax_zreturn B d_Resolver_resolveElements_41
theorem Resolver_resolveElements_lq21 {l : Launch} {G : ax_G} {d : Nat} {call : ax_Cf} (hcall : ax_Hc l G d call) {p : Program} {e : Env} {s : State} {mi : MethodId} {args : Array Value} {below : List Frame} {meth : Method} {c : Code} {h0 : ax_Hp} (B : ax_B G p s mi meth c "SchemaDesk$Resolver" prog_4_method_9_code 8 (some (.boolean))) (E : c.exceptionTable.isEmpty = true) (Nm : meth.name = y_Resolver_resolveElements.name)   : ∀ (n : Nat) (x0 : Option Nat) (x1 : Int32) (x2 : Int32) (x3 : Int32) (x4 : Int32) (x5 : Int32) (h : ax_Hp), ax_W G p l e s mi args below meth c 8 (d + 1) h0 21 [(0, ax_A x0), (1, ax_I x1), (2, ax_I x2), (3, ax_I x3), (4, ax_I x4), (5, ax_I x5)] [] h (Resolver_resolveElements_lp21 call  n x0 x1 x2 x3 x4 x5 h)
  | 0, _, _, _, _, _, _, _ => ax_none
  | n + 1, x0, x1, x2, x3, x4, x5, h => Resolver_resolveElements_lb21 hcall B E Nm   (Resolver_resolveElements_lq21 hcall B E Nm   n) x0 x1 x2 x3 x4 x5 h
def Resolver_resolveElements_b (call : ax_Cf) (x0 : Option Nat) (x1 : Int32) (x2 : Int32) (x3 : Int32) (h : ax_Hp) : ax_O :=
  (ax_gr h x0 1 4).bind fun v1 =>
  ax_on h v1 2 <| ax_ci (call 8 [ax_A v1, ax_I 91] h) fun v3 h2 =>
  if v3 = 0 then
    ax_rz 0 h2
  else
    Resolver_resolveElements_lp21 call ax_fuel x0 x1 x2 x3 20 0 h2
set_option maxHeartbeats 4000000 in
set_option maxRecDepth 20000 in
theorem Resolver_resolveElements_t {l : Launch} {G : ax_G} {d : Nat} {call : ax_Cf} (hcall : ax_Hc l G d call) (x0 : Option Nat) (x1 : Int32) (x2 : Int32) (x3 : Int32) (h : ax_Hp) {r : ax_Rs} {h' : ax_Hp} (ho : Resolver_resolveElements_b call x0 x1 x2 x3 h = some (r, h')) : ax_C l G (d + 1) y_Resolver_resolveElements (.code y_Resolver_resolveElements prog_4_method_9_code 8 (some (.boolean))) [ax_A x0, ax_I x1, ax_I x2, ax_I x3] h r h' := by
  refine ax_enter (by decide) (Nat.le_of_ble_eq_true rfl) ho (fun p e s mi args below meth c B E Nm => ?_)
  have B : ax_B G p s mi meth c "SchemaDesk$Resolver" prog_4_method_9_code 8 (some (.boolean)) := B
  show ax_W G p l e s mi args below meth c 8 (d + 1) h 0 [(0, ax_A x0), (1, ax_I x1), (2, ax_I x2), (3, ax_I x3)] [] h (Resolver_resolveElements_b call x0 x1 x2 x3 h)
  unfold Resolver_resolveElements_b
  refine ax_aload_n B 0 d_Resolver_resolveElements_0 rfl rfl ?_
  refine ax_getfr B cl_Resolver (by decide) fk_Resolver_22 d_Resolver_resolveElements_1 (fun v1 => ?_)
  refine ax_bipush (v := 91) B d_Resolver_resolveElements_4 (by decide) ?_
  refine ax_callVi (av := [ax_I 91]) (rest := []) B E hm_Row_add cl_Row rfl wd_123 wd_124 lk_Resolver_63 d_Resolver_resolveElements_6 rfl (Nat.le_of_ble_eq_true rfl) (fun _ _ hh => hcall 8 _ _ _ _ hh) (fun v3 h2 => ?_)
  refine ax_if_ne B 14 d_Resolver_resolveElements_9 (by decide) ?_ ?_
  · refine ax_bipush (v := 20) B d_Resolver_resolveElements_14 (by decide) ?_
    refine ax_istore (tv2 := [(4, ax_I 20), (0, ax_A x0), (1, ax_I x1), (2, ax_I x2), (3, ax_I x3)]) B d_Resolver_resolveElements_16 (by decide) rfl ?_
    refine ax_iconst (v := 0) B d_Resolver_resolveElements_18 (by decide) ?_
    refine ax_istore (tv2 := [(5, ax_I 0), (4, ax_I 20), (0, ax_A x0), (1, ax_I x1), (2, ax_I x2), (3, ax_I x3)]) B d_Resolver_resolveElements_19 (by decide) rfl ?_
    refine ax_sub (tv2 := [(0, ax_A x0), (1, ax_I x1), (2, ax_I x2), (3, ax_I x3), (4, ax_I 20), (5, ax_I 0)]) [2, 3, 4, 5, 1, 0] rfl ?_
    exact Resolver_resolveElements_lq21 hcall B E Nm ax_fuel x0 x1 x2 x3 20 0 h2
  · refine ax_iconst (v := 0) B d_Resolver_resolveElements_12 (by decide) ?_
    exact ax_zreturn B d_Resolver_resolveElements_13

theorem d_Resolver_resolveFields_0 : decode prog_4_method_10_code 0 = .ok (.aload_n 0, 1) := by decide +kernel
theorem d_Resolver_resolveFields_1 : decode prog_4_method_10_code 1 = .ok (.getfield 15, 3) := by decide +kernel
theorem d_Resolver_resolveFields_4 : decode prog_4_method_10_code 4 = .ok (.iload_n 1, 1) := by decide +kernel
theorem d_Resolver_resolveFields_5 : decode prog_4_method_10_code 5 = .ok (.invokevirtual 137, 3) := by decide +kernel
theorem d_Resolver_resolveFields_8 : decode prog_4_method_10_code 8 = .ok (.istore 4, 2) := by decide +kernel
theorem d_Resolver_resolveFields_10 : decode prog_4_method_10_code 10 = .ok (.iconst 0, 1) := by decide +kernel
theorem d_Resolver_resolveFields_11 : decode prog_4_method_10_code 11 = .ok (.istore 5, 2) := by decide +kernel
theorem d_Resolver_resolveFields_13 : decode prog_4_method_10_code 13 = .ok (.iload 5, 2) := by decide +kernel
theorem d_Resolver_resolveFields_15 : decode prog_4_method_10_code 15 = .ok (.bipush 6, 2) := by decide +kernel
theorem d_Resolver_resolveFields_17 : decode prog_4_method_10_code 17 = .ok (.if_icmp .ge 56, 3) := by decide +kernel
theorem d_Resolver_resolveFields_20 : decode prog_4_method_10_code 20 = .ok (.iload 4, 2) := by decide +kernel
theorem d_Resolver_resolveFields_22 : decode prog_4_method_10_code 22 = .ok (.iconst (-1), 1) := by decide +kernel
theorem d_Resolver_resolveFields_23 : decode prog_4_method_10_code 23 = .ok (.if_icmp .eq 50, 3) := by decide +kernel
theorem d_Resolver_resolveFields_26 : decode prog_4_method_10_code 26 = .ok (.aload_n 0, 1) := by decide +kernel
theorem d_Resolver_resolveFields_27 : decode prog_4_method_10_code 27 = .ok (.iload 4, 2) := by decide +kernel
theorem d_Resolver_resolveFields_29 : decode prog_4_method_10_code 29 = .ok (.invokevirtual 140, 3) := by decide +kernel
theorem d_Resolver_resolveFields_32 : decode prog_4_method_10_code 32 = .ok (.ifCond .eq 22, 3) := by decide +kernel
theorem d_Resolver_resolveFields_35 : decode prog_4_method_10_code 35 = .ok (.aload_n 0, 1) := by decide +kernel
theorem d_Resolver_resolveFields_36 : decode prog_4_method_10_code 36 = .ok (.getfield 35, 3) := by decide +kernel
theorem d_Resolver_resolveFields_39 : decode prog_4_method_10_code 39 = .ok (.aload_n 0, 1) := by decide +kernel
theorem d_Resolver_resolveFields_40 : decode prog_4_method_10_code 40 = .ok (.getfield 15, 3) := by decide +kernel
theorem d_Resolver_resolveFields_43 : decode prog_4_method_10_code 43 = .ok (.iload 4, 2) := by decide +kernel
theorem d_Resolver_resolveFields_45 : decode prog_4_method_10_code 45 = .ok (.invokevirtual 143, 3) := by decide +kernel
theorem d_Resolver_resolveFields_48 : decode prog_4_method_10_code 48 = .ok (.invokevirtual 146, 3) := by decide +kernel
theorem d_Resolver_resolveFields_51 : decode prog_4_method_10_code 51 = .ok (.ifCond .ne 5, 3) := by decide +kernel
theorem d_Resolver_resolveFields_54 : decode prog_4_method_10_code 54 = .ok (.iconst 0, 1) := by decide +kernel
theorem d_Resolver_resolveFields_55 : decode prog_4_method_10_code 55 = .ok (.ireturn, 1) := by decide +kernel
theorem d_Resolver_resolveFields_56 : decode prog_4_method_10_code 56 = .ok (.aload_n 0, 1) := by decide +kernel
theorem d_Resolver_resolveFields_57 : decode prog_4_method_10_code 57 = .ok (.getfield 15, 3) := by decide +kernel
theorem d_Resolver_resolveFields_60 : decode prog_4_method_10_code 60 = .ok (.iload 4, 2) := by decide +kernel
theorem d_Resolver_resolveFields_62 : decode prog_4_method_10_code 62 = .ok (.invokevirtual 149, 3) := by decide +kernel
theorem d_Resolver_resolveFields_65 : decode prog_4_method_10_code 65 = .ok (.istore 4, 2) := by decide +kernel
theorem d_Resolver_resolveFields_67 : decode prog_4_method_10_code 67 = .ok (.iinc 5 1, 3) := by decide +kernel
theorem d_Resolver_resolveFields_70 : decode prog_4_method_10_code 70 = .ok (.goto (-57), 3) := by decide +kernel
theorem d_Resolver_resolveFields_73 : decode prog_4_method_10_code 73 = .ok (.aload_n 0, 1) := by decide +kernel
theorem d_Resolver_resolveFields_74 : decode prog_4_method_10_code 74 = .ok (.getfield 9, 3) := by decide +kernel
theorem d_Resolver_resolveFields_77 : decode prog_4_method_10_code 77 = .ok (.invokevirtual 152, 3) := by decide +kernel
theorem d_Resolver_resolveFields_80 : decode prog_4_method_10_code 80 = .ok (.istore 5, 2) := by decide +kernel
theorem d_Resolver_resolveFields_82 : decode prog_4_method_10_code 82 = .ok (.aload_n 0, 1) := by decide +kernel
theorem d_Resolver_resolveFields_83 : decode prog_4_method_10_code 83 = .ok (.getfield 22, 3) := by decide +kernel
theorem d_Resolver_resolveFields_86 : decode prog_4_method_10_code 86 = .ok (.bipush 123, 2) := by decide +kernel
theorem d_Resolver_resolveFields_88 : decode prog_4_method_10_code 88 = .ok (.invokevirtual 63, 3) := by decide +kernel
theorem d_Resolver_resolveFields_91 : decode prog_4_method_10_code 91 = .ok (.ifCond .ne 5, 3) := by decide +kernel
theorem d_Resolver_resolveFields_94 : decode prog_4_method_10_code 94 = .ok (.iconst 0, 1) := by decide +kernel
theorem d_Resolver_resolveFields_95 : decode prog_4_method_10_code 95 = .ok (.ireturn, 1) := by decide +kernel
theorem d_Resolver_resolveFields_96 : decode prog_4_method_10_code 96 = .ok (.aload_n 0, 1) := by decide +kernel
theorem d_Resolver_resolveFields_97 : decode prog_4_method_10_code 97 = .ok (.getfield 19, 3) := by decide +kernel
theorem d_Resolver_resolveFields_100 : decode prog_4_method_10_code 100 = .ok (.iload_n 2, 1) := by decide +kernel
theorem d_Resolver_resolveFields_101 : decode prog_4_method_10_code 101 = .ok (.invokevirtual 137, 3) := by decide +kernel
theorem d_Resolver_resolveFields_104 : decode prog_4_method_10_code 104 = .ok (.istore 6, 2) := by decide +kernel
theorem d_Resolver_resolveFields_106 : decode prog_4_method_10_code 106 = .ok (.iconst 0, 1) := by decide +kernel
theorem d_Resolver_resolveFields_107 : decode prog_4_method_10_code 107 = .ok (.istore 7, 2) := by decide +kernel
theorem d_Resolver_resolveFields_109 : decode prog_4_method_10_code 109 = .ok (.iload 7, 2) := by decide +kernel
theorem d_Resolver_resolveFields_111 : decode prog_4_method_10_code 111 = .ok (.bipush 6, 2) := by decide +kernel
theorem d_Resolver_resolveFields_113 : decode prog_4_method_10_code 113 = .ok (.if_icmp .ge 72, 3) := by decide +kernel
theorem d_Resolver_resolveFields_116 : decode prog_4_method_10_code 116 = .ok (.aload_n 0, 1) := by decide +kernel
theorem d_Resolver_resolveFields_117 : decode prog_4_method_10_code 117 = .ok (.iload_n 1, 1) := by decide +kernel
theorem d_Resolver_resolveFields_118 : decode prog_4_method_10_code 118 = .ok (.iload 6, 2) := by decide +kernel
theorem d_Resolver_resolveFields_120 : decode prog_4_method_10_code 120 = .ok (.iload_n 3, 1) := by decide +kernel
theorem d_Resolver_resolveFields_121 : decode prog_4_method_10_code 121 = .ok (.invokevirtual 155, 3) := by decide +kernel
theorem d_Resolver_resolveFields_124 : decode prog_4_method_10_code 124 = .ok (.ifCond .ne 5, 3) := by decide +kernel
theorem d_Resolver_resolveFields_127 : decode prog_4_method_10_code 127 = .ok (.iconst 0, 1) := by decide +kernel
theorem d_Resolver_resolveFields_128 : decode prog_4_method_10_code 128 = .ok (.ireturn, 1) := by decide +kernel
theorem d_Resolver_resolveFields_129 : decode prog_4_method_10_code 129 = .ok (.aload_n 0, 1) := by decide +kernel
theorem d_Resolver_resolveFields_130 : decode prog_4_method_10_code 130 = .ok (.getfield 19, 3) := by decide +kernel
theorem d_Resolver_resolveFields_133 : decode prog_4_method_10_code 133 = .ok (.iload 6, 2) := by decide +kernel
theorem d_Resolver_resolveFields_135 : decode prog_4_method_10_code 135 = .ok (.invokevirtual 149, 3) := by decide +kernel
theorem d_Resolver_resolveFields_138 : decode prog_4_method_10_code 138 = .ok (.istore 6, 2) := by decide +kernel
theorem d_Resolver_resolveFields_140 : decode prog_4_method_10_code 140 = .ok (.iload 6, 2) := by decide +kernel
theorem d_Resolver_resolveFields_142 : decode prog_4_method_10_code 142 = .ok (.iconst (-1), 1) := by decide +kernel
theorem d_Resolver_resolveFields_143 : decode prog_4_method_10_code 143 = .ok (.if_icmp .ne 22, 3) := by decide +kernel
theorem d_Resolver_resolveFields_146 : decode prog_4_method_10_code 146 = .ok (.aload_n 0, 1) := by decide +kernel
theorem d_Resolver_resolveFields_147 : decode prog_4_method_10_code 147 = .ok (.getfield 9, 3) := by decide +kernel
theorem d_Resolver_resolveFields_150 : decode prog_4_method_10_code 150 = .ok (.iload 5, 2) := by decide +kernel
theorem d_Resolver_resolveFields_152 : decode prog_4_method_10_code 152 = .ok (.invokevirtual 39, 3) := by decide +kernel
theorem d_Resolver_resolveFields_155 : decode prog_4_method_10_code 155 = .ok (.aload_n 0, 1) := by decide +kernel
theorem d_Resolver_resolveFields_156 : decode prog_4_method_10_code 156 = .ok (.getfield 22, 3) := by decide +kernel
theorem d_Resolver_resolveFields_159 : decode prog_4_method_10_code 159 = .ok (.bipush 125, 2) := by decide +kernel
theorem d_Resolver_resolveFields_161 : decode prog_4_method_10_code 161 = .ok (.invokevirtual 63, 3) := by decide +kernel
theorem d_Resolver_resolveFields_164 : decode prog_4_method_10_code 164 = .ok (.ireturn, 1) := by decide +kernel
theorem d_Resolver_resolveFields_165 : decode prog_4_method_10_code 165 = .ok (.aload_n 0, 1) := by decide +kernel
theorem d_Resolver_resolveFields_166 : decode prog_4_method_10_code 166 = .ok (.getfield 22, 3) := by decide +kernel
theorem d_Resolver_resolveFields_169 : decode prog_4_method_10_code 169 = .ok (.bipush 44, 2) := by decide +kernel
theorem d_Resolver_resolveFields_171 : decode prog_4_method_10_code 171 = .ok (.invokevirtual 63, 3) := by decide +kernel
theorem d_Resolver_resolveFields_174 : decode prog_4_method_10_code 174 = .ok (.ifCond .ne 5, 3) := by decide +kernel
theorem d_Resolver_resolveFields_177 : decode prog_4_method_10_code 177 = .ok (.iconst 0, 1) := by decide +kernel
theorem d_Resolver_resolveFields_178 : decode prog_4_method_10_code 178 = .ok (.ireturn, 1) := by decide +kernel
theorem d_Resolver_resolveFields_179 : decode prog_4_method_10_code 179 = .ok (.iinc 7 1, 3) := by decide +kernel
theorem d_Resolver_resolveFields_182 : decode prog_4_method_10_code 182 = .ok (.goto (-73), 3) := by decide +kernel
theorem d_Resolver_resolveFields_185 : decode prog_4_method_10_code 185 = .ok (.iconst 0, 1) := by decide +kernel
theorem d_Resolver_resolveFields_186 : decode prog_4_method_10_code 186 = .ok (.ireturn, 1) := by decide +kernel
def Resolver_resolveFields_bd109 (call : ax_Cf)  (k109 : Option Nat → Int32 → Int32 → Int32 → Int32 → Int32 → ax_Hp → ax_O) (x0 : Option Nat) (x1 : Int32) (x3 : Int32) (x5 : Int32) (x6 : Int32) (x7 : Int32) (h : ax_Hp) : ax_O :=
  if 6 ≤ x7 then
    ax_rz 0 h
  else
    ax_on h x0 1 <| ax_ci (call 138 [ax_A x0, ax_I x1, ax_I x6, ax_I x3] h) fun v14 h13 =>
    if v14 = 0 then
      ax_rz 0 h13
    else
      (ax_gr h13 x0 1 3).bind fun v15 =>
      ax_on h13 v15 3 <| ax_ci (call 63 [ax_A v15, ax_I x6] h13) fun v17 h16 =>
      if v17 = (-1) then
        (ax_gr h16 x0 1 0).bind fun v21 =>
        ax_on h16 v21 0 <| ax_cv (call 125 [ax_A v21, ax_I x5] h16) fun h22 =>
        (ax_gr h22 x0 1 4).bind fun v24 =>
        ax_on h22 v24 2 <| ax_ci (call 8 [ax_A v24, ax_I 125] h22) fun v26 h25 =>
        ax_rz v26 h25
      else
        (ax_gr h16 x0 1 4).bind fun v18 =>
        ax_on h16 v18 2 <| ax_ci (call 8 [ax_A v18, ax_I 44] h16) fun v20 h19 =>
        if v20 = 0 then
          ax_rz 0 h19
        else
          k109 x0 x1 x3 x5 v17 (x7 + 1) h19
def Resolver_resolveFields_lp109 (call : ax_Cf)  : Nat → Option Nat → Int32 → Int32 → Int32 → Int32 → Int32 → ax_Hp → ax_O
  | 0 => fun _ _ _ _ _ _ _ => none
  | n + 1 => Resolver_resolveFields_bd109 call  (Resolver_resolveFields_lp109 call  n)
set_option maxHeartbeats 4000000 in
set_option maxRecDepth 20000 in
theorem Resolver_resolveFields_lb109 {l : Launch} {G : ax_G} {d : Nat} {call : ax_Cf} (hcall : ax_Hc l G d call) {p : Program} {e : Env} {s : State} {mi : MethodId} {args : Array Value} {below : List Frame} {meth : Method} {c : Code} {h0 : ax_Hp} (B : ax_B G p s mi meth c "SchemaDesk$Resolver" prog_4_method_10_code 8 (some (.boolean))) (E : c.exceptionTable.isEmpty = true) (Nm : meth.name = y_Resolver_resolveFields.name)   {k109 : Option Nat → Int32 → Int32 → Int32 → Int32 → Int32 → ax_Hp → ax_O} (hk109 : ∀ (x0 : Option Nat) (x1 : Int32) (x3 : Int32) (x5 : Int32) (x6 : Int32) (x7 : Int32) (h : ax_Hp), ax_W G p l e s mi args below meth c 8 (d + 1) h0 109 [(0, ax_A x0), (1, ax_I x1), (3, ax_I x3), (5, ax_I x5), (6, ax_I x6), (7, ax_I x7)] [] h (k109 x0 x1 x3 x5 x6 x7 h)) (x0 : Option Nat) (x1 : Int32) (x3 : Int32) (x5 : Int32) (x6 : Int32) (x7 : Int32) (h : ax_Hp) : ax_W G p l e s mi args below meth c 8 (d + 1) h0 109 [(0, ax_A x0), (1, ax_I x1), (3, ax_I x3), (5, ax_I x5), (6, ax_I x6), (7, ax_I x7)] [] h (Resolver_resolveFields_bd109 call  k109 x0 x1 x3 x5 x6 x7 h) := by
  unfold Resolver_resolveFields_bd109
  refine ax_iload B 5 d_Resolver_resolveFields_109 rfl ?_
  refine ax_bipush (v := 6) B d_Resolver_resolveFields_111 (by decide) ?_
  refine ax_icmp_ge B 185 d_Resolver_resolveFields_113 (by decide) ?_ ?_
  · refine ax_iconst (v := 0) B d_Resolver_resolveFields_185 (by decide) ?_
    exact ax_zreturn B d_Resolver_resolveFields_186
  · refine ax_aload_n B 0 d_Resolver_resolveFields_116 rfl rfl ?_
    refine ax_iload_n B 1 d_Resolver_resolveFields_117 rfl rfl ?_
    refine ax_iload B 4 d_Resolver_resolveFields_118 rfl ?_
    refine ax_iload_n B 2 d_Resolver_resolveFields_120 rfl rfl ?_
    refine ax_callVi (av := [ax_I x1, ax_I x6, ax_I x3]) (rest := []) B E hm_Resolver_resolveField cl_Resolver rfl wd_853 wp_36 lk_Resolver_155 d_Resolver_resolveFields_121 rfl (Nat.le_of_ble_eq_true rfl) (fun _ _ hh => hcall 138 _ _ _ _ hh) (fun v14 h13 => ?_)
    refine ax_if_ne B 129 d_Resolver_resolveFields_124 (by decide) ?_ ?_
    · refine ax_aload_n B 0 d_Resolver_resolveFields_129 rfl rfl ?_
      refine ax_getfr B cl_Resolver (by decide) fk_Resolver_19 d_Resolver_resolveFields_130 (fun v15 => ?_)
      refine ax_iload B 4 d_Resolver_resolveFields_133 rfl ?_
      refine ax_callVi (av := [ax_I x6]) (rest := []) B E hm_Schema_nextPart cl_Schema rfl wd_452 wd_453 lk_Resolver_149 d_Resolver_resolveFields_135 rfl (Nat.le_of_ble_eq_true rfl) (fun _ _ hh => hcall 63 _ _ _ _ hh) (fun v17 h16 => ?_)
      refine ax_istore (tv2 := [(6, ax_I v17), (0, ax_A x0), (1, ax_I x1), (3, ax_I x3), (5, ax_I x5), (7, ax_I x7)]) B d_Resolver_resolveFields_138 (by decide) rfl ?_
      refine ax_iload B 0 d_Resolver_resolveFields_140 rfl ?_
      refine ax_iconst (v := (-1)) B d_Resolver_resolveFields_142 (by decide) ?_
      refine ax_icmp_ne B 165 d_Resolver_resolveFields_143 (by decide) ?_ ?_
      · refine ax_aload_n B 1 d_Resolver_resolveFields_165 rfl rfl ?_
        refine ax_getfr B cl_Resolver (by decide) fk_Resolver_22 d_Resolver_resolveFields_166 (fun v18 => ?_)
        refine ax_bipush (v := 44) B d_Resolver_resolveFields_169 (by decide) ?_
        refine ax_callVi (av := [ax_I 44]) (rest := []) B E hm_Row_add cl_Row rfl wd_123 wd_124 lk_Resolver_63 d_Resolver_resolveFields_171 rfl (Nat.le_of_ble_eq_true rfl) (fun _ _ hh => hcall 8 _ _ _ _ hh) (fun v20 h19 => ?_)
        refine ax_if_ne B 179 d_Resolver_resolveFields_174 (by decide) ?_ ?_
        · refine ax_iinc (v := x7 + 1) (tv2 := [(7, ax_I (x7 + 1)), (6, ax_I v17), (0, ax_A x0), (1, ax_I x1), (3, ax_I x3), (5, ax_I x5)]) B 5 d_Resolver_resolveFields_179 rfl (congrArg (_ + ·) (by decide)) (by decide) rfl ?_
          refine ax_goto B 109 d_Resolver_resolveFields_182 (by decide) ?_
          refine ax_sub (tv2 := [(0, ax_A x0), (1, ax_I x1), (3, ax_I x3), (5, ax_I x5), (6, ax_I v17), (7, ax_I (x7 + 1))]) [2, 3, 4, 5, 1, 0] rfl ?_
          exact hk109 x0 x1 x3 x5 v17 (x7 + 1) h19
        · refine ax_iconst (v := 0) B d_Resolver_resolveFields_177 (by decide) ?_
          exact ax_zreturn B d_Resolver_resolveFields_178
      · refine ax_aload_n B 1 d_Resolver_resolveFields_146 rfl rfl ?_
        refine ax_getfr B cl_Resolver (by decide) fk_Resolver_9 d_Resolver_resolveFields_147 (fun v21 => ?_)
        refine ax_iload B 4 d_Resolver_resolveFields_150 rfl ?_
        refine ax_callVv (av := [ax_I x5]) (rest := []) B E hm_Cursor_moveTo cl_Cursor rfl wd_783 wd_784 lk_Resolver_39 d_Resolver_resolveFields_152 rfl (Nat.le_of_ble_eq_true rfl) (fun _ _ hh => hcall 125 _ _ _ _ hh) (fun h22 => ?_)
        refine ax_aload_n B 1 d_Resolver_resolveFields_155 rfl rfl ?_
        refine ax_getfr B cl_Resolver (by decide) fk_Resolver_22 d_Resolver_resolveFields_156 (fun v24 => ?_)
        refine ax_bipush (v := 125) B d_Resolver_resolveFields_159 (by decide) ?_
        refine ax_callVi (av := [ax_I 125]) (rest := []) B E hm_Row_add cl_Row rfl wd_123 wd_124 lk_Resolver_63 d_Resolver_resolveFields_161 rfl (Nat.le_of_ble_eq_true rfl) (fun _ _ hh => hcall 8 _ _ _ _ hh) (fun v26 h25 => ?_)
        exact ax_zreturn B d_Resolver_resolveFields_164
    · refine ax_iconst (v := 0) B d_Resolver_resolveFields_127 (by decide) ?_
      exact ax_zreturn B d_Resolver_resolveFields_128
theorem Resolver_resolveFields_lq109 {l : Launch} {G : ax_G} {d : Nat} {call : ax_Cf} (hcall : ax_Hc l G d call) {p : Program} {e : Env} {s : State} {mi : MethodId} {args : Array Value} {below : List Frame} {meth : Method} {c : Code} {h0 : ax_Hp} (B : ax_B G p s mi meth c "SchemaDesk$Resolver" prog_4_method_10_code 8 (some (.boolean))) (E : c.exceptionTable.isEmpty = true) (Nm : meth.name = y_Resolver_resolveFields.name)   : ∀ (n : Nat) (x0 : Option Nat) (x1 : Int32) (x3 : Int32) (x5 : Int32) (x6 : Int32) (x7 : Int32) (h : ax_Hp), ax_W G p l e s mi args below meth c 8 (d + 1) h0 109 [(0, ax_A x0), (1, ax_I x1), (3, ax_I x3), (5, ax_I x5), (6, ax_I x6), (7, ax_I x7)] [] h (Resolver_resolveFields_lp109 call  n x0 x1 x3 x5 x6 x7 h)
  | 0, _, _, _, _, _, _, _ => ax_none
  | n + 1, x0, x1, x3, x5, x6, x7, h => Resolver_resolveFields_lb109 hcall B E Nm   (Resolver_resolveFields_lq109 hcall B E Nm   n) x0 x1 x3 x5 x6 x7 h
def Resolver_resolveFields_bd13 (call : ax_Cf)  (k13 : Option Nat → Int32 → Int32 → Int32 → Int32 → Int32 → ax_Hp → ax_O) (x0 : Option Nat) (x1 : Int32) (x2 : Int32) (x3 : Int32) (x4 : Int32) (x5 : Int32) (h : ax_Hp) : ax_O :=
  if 6 ≤ x5 then
    (ax_gr h x0 1 0).bind fun v4 =>
    ax_on h v4 0 <| ax_ci (call 27 [ax_A v4] h) fun v6 h5 =>
    (ax_gr h5 x0 1 4).bind fun v7 =>
    ax_on h5 v7 2 <| ax_ci (call 8 [ax_A v7, ax_I 123] h5) fun v9 h8 =>
    if v9 = 0 then
      ax_rz 0 h8
    else
      (ax_gr h8 x0 1 3).bind fun v10 =>
      ax_on h8 v10 3 <| ax_ci (call 60 [ax_A v10, ax_I x2] h8) fun v12 h11 =>
      Resolver_resolveFields_lp109 call ax_fuel x0 x1 x3 v6 v12 0 h11
  else
    if x4 = (-1) then
      (ax_gr h x0 1 0).bind fun v27 =>
      ax_on h v27 0 <| ax_ci (call 27 [ax_A v27] h) fun v29 h28 =>
      (ax_gr h28 x0 1 4).bind fun v30 =>
      ax_on h28 v30 2 <| ax_ci (call 8 [ax_A v30, ax_I 123] h28) fun v32 h31 =>
      if v32 = 0 then
        ax_rz 0 h31
      else
        (ax_gr h31 x0 1 3).bind fun v33 =>
        ax_on h31 v33 3 <| ax_ci (call 60 [ax_A v33, ax_I x2] h31) fun v35 h34 =>
        Resolver_resolveFields_lp109 call ax_fuel x0 x1 x3 v29 v35 0 h34
    else
      ax_on h x0 1 <| ax_ci (call 136 [ax_A x0, ax_I x4] h) fun v37 h36 =>
      if v37 = 0 then
        ax_rz 0 h36
      else
        (ax_gr h36 x0 1 1).bind fun v38 =>
        (ax_gr h36 x0 1 2).bind fun v39 =>
        ax_on h36 v39 3 <| ax_ci (call 65 [ax_A v39, ax_I x4] h36) fun v41 h40 =>
        ax_on h40 v38 5 <| ax_ci (call 137 [ax_A v38, ax_I v41] h40) fun v43 h42 =>
        if v43 = 0 then
          ax_rz 0 h42
        else
          (ax_gr h42 x0 1 2).bind fun v44 =>
          ax_on h42 v44 3 <| ax_ci (call 63 [ax_A v44, ax_I x4] h42) fun v46 h45 =>
          k13 x0 x1 x2 x3 v46 (x5 + 1) h45
def Resolver_resolveFields_lp13 (call : ax_Cf)  : Nat → Option Nat → Int32 → Int32 → Int32 → Int32 → Int32 → ax_Hp → ax_O
  | 0 => fun _ _ _ _ _ _ _ => none
  | n + 1 => Resolver_resolveFields_bd13 call  (Resolver_resolveFields_lp13 call  n)
set_option maxHeartbeats 4000000 in
set_option maxRecDepth 20000 in
theorem Resolver_resolveFields_lb13 {l : Launch} {G : ax_G} {d : Nat} {call : ax_Cf} (hcall : ax_Hc l G d call) {p : Program} {e : Env} {s : State} {mi : MethodId} {args : Array Value} {below : List Frame} {meth : Method} {c : Code} {h0 : ax_Hp} (B : ax_B G p s mi meth c "SchemaDesk$Resolver" prog_4_method_10_code 8 (some (.boolean))) (E : c.exceptionTable.isEmpty = true) (Nm : meth.name = y_Resolver_resolveFields.name)   {k13 : Option Nat → Int32 → Int32 → Int32 → Int32 → Int32 → ax_Hp → ax_O} (hk13 : ∀ (x0 : Option Nat) (x1 : Int32) (x2 : Int32) (x3 : Int32) (x4 : Int32) (x5 : Int32) (h : ax_Hp), ax_W G p l e s mi args below meth c 8 (d + 1) h0 13 [(0, ax_A x0), (1, ax_I x1), (2, ax_I x2), (3, ax_I x3), (4, ax_I x4), (5, ax_I x5)] [] h (k13 x0 x1 x2 x3 x4 x5 h)) (x0 : Option Nat) (x1 : Int32) (x2 : Int32) (x3 : Int32) (x4 : Int32) (x5 : Int32) (h : ax_Hp) : ax_W G p l e s mi args below meth c 8 (d + 1) h0 13 [(0, ax_A x0), (1, ax_I x1), (2, ax_I x2), (3, ax_I x3), (4, ax_I x4), (5, ax_I x5)] [] h (Resolver_resolveFields_bd13 call  k13 x0 x1 x2 x3 x4 x5 h) := by
  unfold Resolver_resolveFields_bd13
  refine ax_iload B 5 d_Resolver_resolveFields_13 rfl ?_
  refine ax_bipush (v := 6) B d_Resolver_resolveFields_15 (by decide) ?_
  refine ax_icmp_ge B 73 d_Resolver_resolveFields_17 (by decide) ?_ ?_
  · refine ax_aload_n B 0 d_Resolver_resolveFields_73 rfl rfl ?_
    refine ax_getfr B cl_Resolver (by decide) fk_Resolver_9 d_Resolver_resolveFields_74 (fun v4 => ?_)
    refine ax_callVi (av := []) (rest := []) B E hm_Cursor_at cl_Cursor rfl wd_302 wd_303 lk_Resolver_152 d_Resolver_resolveFields_77 rfl (Nat.le_of_ble_eq_true rfl) (fun _ _ hh => hcall 27 _ _ _ _ hh) (fun v6 h5 => ?_)
    refine ax_istore (tv2 := [(5, ax_I v6), (0, ax_A x0), (1, ax_I x1), (2, ax_I x2), (3, ax_I x3), (4, ax_I x4)]) B d_Resolver_resolveFields_80 (by decide) rfl ?_
    refine ax_aload_n B 1 d_Resolver_resolveFields_82 rfl rfl ?_
    refine ax_getfr B cl_Resolver (by decide) fk_Resolver_22 d_Resolver_resolveFields_83 (fun v7 => ?_)
    refine ax_bipush (v := 123) B d_Resolver_resolveFields_86 (by decide) ?_
    refine ax_callVi (av := [ax_I 123]) (rest := []) B E hm_Row_add cl_Row rfl wd_123 wd_124 lk_Resolver_63 d_Resolver_resolveFields_88 rfl (Nat.le_of_ble_eq_true rfl) (fun _ _ hh => hcall 8 _ _ _ _ hh) (fun v9 h8 => ?_)
    refine ax_if_ne B 96 d_Resolver_resolveFields_91 (by decide) ?_ ?_
    · refine ax_aload_n B 1 d_Resolver_resolveFields_96 rfl rfl ?_
      refine ax_getfr B cl_Resolver (by decide) fk_Resolver_19 d_Resolver_resolveFields_97 (fun v10 => ?_)
      refine ax_iload_n B 3 d_Resolver_resolveFields_100 rfl rfl ?_
      refine ax_callVi (av := [ax_I x2]) (rest := []) B E hm_Schema_firstPart cl_Schema rfl wd_439 wd_440 lk_Resolver_137 d_Resolver_resolveFields_101 rfl (Nat.le_of_ble_eq_true rfl) (fun _ _ hh => hcall 60 _ _ _ _ hh) (fun v12 h11 => ?_)
      refine ax_istore (tv2 := [(6, ax_I v12), (5, ax_I v6), (0, ax_A x0), (1, ax_I x1), (2, ax_I x2), (3, ax_I x3), (4, ax_I x4)]) B d_Resolver_resolveFields_104 (by decide) rfl ?_
      refine ax_iconst (v := 0) B d_Resolver_resolveFields_106 (by decide) ?_
      refine ax_istore (tv2 := [(7, ax_I 0), (6, ax_I v12), (5, ax_I v6), (0, ax_A x0), (1, ax_I x1), (2, ax_I x2), (3, ax_I x3), (4, ax_I x4)]) B d_Resolver_resolveFields_107 (by decide) rfl ?_
      refine ax_sub (tv2 := [(0, ax_A x0), (1, ax_I x1), (3, ax_I x3), (5, ax_I v6), (6, ax_I v12), (7, ax_I 0)]) [3, 4, 6, 2, 1, 0] rfl ?_
      exact Resolver_resolveFields_lq109 hcall B E Nm ax_fuel x0 x1 x3 v6 v12 0 h11
    · refine ax_iconst (v := 0) B d_Resolver_resolveFields_94 (by decide) ?_
      exact ax_zreturn B d_Resolver_resolveFields_95
  · refine ax_iload B 4 d_Resolver_resolveFields_20 rfl ?_
    refine ax_iconst (v := (-1)) B d_Resolver_resolveFields_22 (by decide) ?_
    refine ax_icmp_eq B 73 d_Resolver_resolveFields_23 (by decide) ?_ ?_
    · refine ax_aload_n B 0 d_Resolver_resolveFields_73 rfl rfl ?_
      refine ax_getfr B cl_Resolver (by decide) fk_Resolver_9 d_Resolver_resolveFields_74 (fun v27 => ?_)
      refine ax_callVi (av := []) (rest := []) B E hm_Cursor_at cl_Cursor rfl wd_302 wd_303 lk_Resolver_152 d_Resolver_resolveFields_77 rfl (Nat.le_of_ble_eq_true rfl) (fun _ _ hh => hcall 27 _ _ _ _ hh) (fun v29 h28 => ?_)
      refine ax_istore (tv2 := [(5, ax_I v29), (0, ax_A x0), (1, ax_I x1), (2, ax_I x2), (3, ax_I x3), (4, ax_I x4)]) B d_Resolver_resolveFields_80 (by decide) rfl ?_
      refine ax_aload_n B 1 d_Resolver_resolveFields_82 rfl rfl ?_
      refine ax_getfr B cl_Resolver (by decide) fk_Resolver_22 d_Resolver_resolveFields_83 (fun v30 => ?_)
      refine ax_bipush (v := 123) B d_Resolver_resolveFields_86 (by decide) ?_
      refine ax_callVi (av := [ax_I 123]) (rest := []) B E hm_Row_add cl_Row rfl wd_123 wd_124 lk_Resolver_63 d_Resolver_resolveFields_88 rfl (Nat.le_of_ble_eq_true rfl) (fun _ _ hh => hcall 8 _ _ _ _ hh) (fun v32 h31 => ?_)
      refine ax_if_ne B 96 d_Resolver_resolveFields_91 (by decide) ?_ ?_
      · refine ax_aload_n B 1 d_Resolver_resolveFields_96 rfl rfl ?_
        refine ax_getfr B cl_Resolver (by decide) fk_Resolver_19 d_Resolver_resolveFields_97 (fun v33 => ?_)
        refine ax_iload_n B 3 d_Resolver_resolveFields_100 rfl rfl ?_
        refine ax_callVi (av := [ax_I x2]) (rest := []) B E hm_Schema_firstPart cl_Schema rfl wd_439 wd_440 lk_Resolver_137 d_Resolver_resolveFields_101 rfl (Nat.le_of_ble_eq_true rfl) (fun _ _ hh => hcall 60 _ _ _ _ hh) (fun v35 h34 => ?_)
        refine ax_istore (tv2 := [(6, ax_I v35), (5, ax_I v29), (0, ax_A x0), (1, ax_I x1), (2, ax_I x2), (3, ax_I x3), (4, ax_I x4)]) B d_Resolver_resolveFields_104 (by decide) rfl ?_
        refine ax_iconst (v := 0) B d_Resolver_resolveFields_106 (by decide) ?_
        refine ax_istore (tv2 := [(7, ax_I 0), (6, ax_I v35), (5, ax_I v29), (0, ax_A x0), (1, ax_I x1), (2, ax_I x2), (3, ax_I x3), (4, ax_I x4)]) B d_Resolver_resolveFields_107 (by decide) rfl ?_
        refine ax_sub (tv2 := [(0, ax_A x0), (1, ax_I x1), (3, ax_I x3), (5, ax_I v29), (6, ax_I v35), (7, ax_I 0)]) [3, 4, 6, 2, 1, 0] rfl ?_
        exact Resolver_resolveFields_lq109 hcall B E Nm ax_fuel x0 x1 x3 v29 v35 0 h34
      · refine ax_iconst (v := 0) B d_Resolver_resolveFields_94 (by decide) ?_
        exact ax_zreturn B d_Resolver_resolveFields_95
    · refine ax_aload_n B 0 d_Resolver_resolveFields_26 rfl rfl ?_
      refine ax_iload B 4 d_Resolver_resolveFields_27 rfl ?_
      refine ax_callVi (av := [ax_I x4]) (rest := []) B E hm_Resolver_noteFieldStart cl_Resolver rfl wd_842 wp_35 lk_Resolver_140 d_Resolver_resolveFields_29 rfl (Nat.le_of_ble_eq_true rfl) (fun _ _ hh => hcall 136 _ _ _ _ hh) (fun v37 h36 => ?_)
      refine ax_if_eq B 54 d_Resolver_resolveFields_32 (by decide) ?_ ?_
      · refine ax_iconst (v := 0) B d_Resolver_resolveFields_54 (by decide) ?_
        exact ax_zreturn B d_Resolver_resolveFields_55
      · refine ax_aload_n B 0 d_Resolver_resolveFields_35 rfl rfl ?_
        refine ax_getfr B cl_Resolver (by decide) fk_Resolver_35 d_Resolver_resolveFields_36 (fun v38 => ?_)
        refine ax_aload_n B 0 d_Resolver_resolveFields_39 rfl rfl ?_
        refine ax_getfr B cl_Resolver (by decide) fk_Resolver_15 d_Resolver_resolveFields_40 (fun v39 => ?_)
        refine ax_iload B 4 d_Resolver_resolveFields_43 rfl ?_
        refine ax_callVi (av := [ax_I x4]) (rest := [ax_A v38]) B E hm_Schema_fieldType cl_Schema rfl wd_460 wd_461 lk_Resolver_143 d_Resolver_resolveFields_45 rfl (Nat.le_of_ble_eq_true rfl) (fun _ _ hh => hcall 65 _ _ _ _ hh) (fun v41 h40 => ?_)
        refine ax_callVi (av := [ax_I v41]) (rest := []) B E hm_StreamReader_skipField cl_StreamReader rfl wd_847 wd_848 lk_Resolver_146 d_Resolver_resolveFields_48 rfl (Nat.le_of_ble_eq_true rfl) (fun _ _ hh => hcall 137 _ _ _ _ hh) (fun v43 h42 => ?_)
        refine ax_if_ne B 56 d_Resolver_resolveFields_51 (by decide) ?_ ?_
        · refine ax_aload_n B 0 d_Resolver_resolveFields_56 rfl rfl ?_
          refine ax_getfr B cl_Resolver (by decide) fk_Resolver_15 d_Resolver_resolveFields_57 (fun v44 => ?_)
          refine ax_iload B 4 d_Resolver_resolveFields_60 rfl ?_
          refine ax_callVi (av := [ax_I x4]) (rest := []) B E hm_Schema_nextPart cl_Schema rfl wd_452 wd_453 lk_Resolver_149 d_Resolver_resolveFields_62 rfl (Nat.le_of_ble_eq_true rfl) (fun _ _ hh => hcall 63 _ _ _ _ hh) (fun v46 h45 => ?_)
          refine ax_istore (tv2 := [(4, ax_I v46), (0, ax_A x0), (1, ax_I x1), (2, ax_I x2), (3, ax_I x3), (5, ax_I x5)]) B d_Resolver_resolveFields_65 (by decide) rfl ?_
          refine ax_iinc (v := x5 + 1) (tv2 := [(5, ax_I (x5 + 1)), (4, ax_I v46), (0, ax_A x0), (1, ax_I x1), (2, ax_I x2), (3, ax_I x3)]) B 5 d_Resolver_resolveFields_67 rfl (congrArg (_ + ·) (by decide)) (by decide) rfl ?_
          refine ax_goto B 13 d_Resolver_resolveFields_70 (by decide) ?_
          refine ax_sub (tv2 := [(0, ax_A x0), (1, ax_I x1), (2, ax_I x2), (3, ax_I x3), (4, ax_I v46), (5, ax_I (x5 + 1))]) [2, 3, 4, 5, 1, 0] rfl ?_
          exact hk13 x0 x1 x2 x3 v46 (x5 + 1) h45
        · refine ax_iconst (v := 0) B d_Resolver_resolveFields_54 (by decide) ?_
          exact ax_zreturn B d_Resolver_resolveFields_55
theorem Resolver_resolveFields_lq13 {l : Launch} {G : ax_G} {d : Nat} {call : ax_Cf} (hcall : ax_Hc l G d call) {p : Program} {e : Env} {s : State} {mi : MethodId} {args : Array Value} {below : List Frame} {meth : Method} {c : Code} {h0 : ax_Hp} (B : ax_B G p s mi meth c "SchemaDesk$Resolver" prog_4_method_10_code 8 (some (.boolean))) (E : c.exceptionTable.isEmpty = true) (Nm : meth.name = y_Resolver_resolveFields.name)   : ∀ (n : Nat) (x0 : Option Nat) (x1 : Int32) (x2 : Int32) (x3 : Int32) (x4 : Int32) (x5 : Int32) (h : ax_Hp), ax_W G p l e s mi args below meth c 8 (d + 1) h0 13 [(0, ax_A x0), (1, ax_I x1), (2, ax_I x2), (3, ax_I x3), (4, ax_I x4), (5, ax_I x5)] [] h (Resolver_resolveFields_lp13 call  n x0 x1 x2 x3 x4 x5 h)
  | 0, _, _, _, _, _, _, _ => ax_none
  | n + 1, x0, x1, x2, x3, x4, x5, h => Resolver_resolveFields_lb13 hcall B E Nm   (Resolver_resolveFields_lq13 hcall B E Nm   n) x0 x1 x2 x3 x4 x5 h
def Resolver_resolveFields_b (call : ax_Cf) (x0 : Option Nat) (x1 : Int32) (x2 : Int32) (x3 : Int32) (h : ax_Hp) : ax_O :=
  (ax_gr h x0 1 2).bind fun v1 =>
  ax_on h v1 3 <| ax_ci (call 60 [ax_A v1, ax_I x1] h) fun v3 h2 =>
  Resolver_resolveFields_lp13 call ax_fuel x0 x1 x2 x3 v3 0 h2
set_option maxHeartbeats 4000000 in
set_option maxRecDepth 20000 in
theorem Resolver_resolveFields_t {l : Launch} {G : ax_G} {d : Nat} {call : ax_Cf} (hcall : ax_Hc l G d call) (x0 : Option Nat) (x1 : Int32) (x2 : Int32) (x3 : Int32) (h : ax_Hp) {r : ax_Rs} {h' : ax_Hp} (ho : Resolver_resolveFields_b call x0 x1 x2 x3 h = some (r, h')) : ax_C l G (d + 1) y_Resolver_resolveFields (.code y_Resolver_resolveFields prog_4_method_10_code 8 (some (.boolean))) [ax_A x0, ax_I x1, ax_I x2, ax_I x3] h r h' := by
  refine ax_enter (by decide) (Nat.le_of_ble_eq_true rfl) ho (fun p e s mi args below meth c B E Nm => ?_)
  have B : ax_B G p s mi meth c "SchemaDesk$Resolver" prog_4_method_10_code 8 (some (.boolean)) := B
  show ax_W G p l e s mi args below meth c 8 (d + 1) h 0 [(0, ax_A x0), (1, ax_I x1), (2, ax_I x2), (3, ax_I x3)] [] h (Resolver_resolveFields_b call x0 x1 x2 x3 h)
  unfold Resolver_resolveFields_b
  refine ax_aload_n B 0 d_Resolver_resolveFields_0 rfl rfl ?_
  refine ax_getfr B cl_Resolver (by decide) fk_Resolver_15 d_Resolver_resolveFields_1 (fun v1 => ?_)
  refine ax_iload_n B 1 d_Resolver_resolveFields_4 rfl rfl ?_
  refine ax_callVi (av := [ax_I x1]) (rest := []) B E hm_Schema_firstPart cl_Schema rfl wd_439 wd_440 lk_Resolver_137 d_Resolver_resolveFields_5 rfl (Nat.le_of_ble_eq_true rfl) (fun _ _ hh => hcall 60 _ _ _ _ hh) (fun v3 h2 => ?_)
  refine ax_istore (tv2 := [(4, ax_I v3), (0, ax_A x0), (1, ax_I x1), (2, ax_I x2), (3, ax_I x3)]) B d_Resolver_resolveFields_8 (by decide) rfl ?_
  refine ax_iconst (v := 0) B d_Resolver_resolveFields_10 (by decide) ?_
  refine ax_istore (tv2 := [(5, ax_I 0), (4, ax_I v3), (0, ax_A x0), (1, ax_I x1), (2, ax_I x2), (3, ax_I x3)]) B d_Resolver_resolveFields_11 (by decide) rfl ?_
  refine ax_sub (tv2 := [(0, ax_A x0), (1, ax_I x1), (2, ax_I x2), (3, ax_I x3), (4, ax_I v3), (5, ax_I 0)]) [2, 3, 4, 5, 1, 0] rfl ?_
  exact Resolver_resolveFields_lq13 hcall B E Nm ax_fuel x0 x1 x2 x3 v3 0 h2

theorem d_Resolver_noteFieldStart_0 : decode prog_4_method_11_code 0 = .ok (.iload_n 1, 1) := by decide +kernel
theorem d_Resolver_noteFieldStart_1 : decode prog_4_method_11_code 1 = .ok (.ifCond .lt 12, 3) := by decide +kernel
theorem d_Resolver_noteFieldStart_4 : decode prog_4_method_11_code 4 = .ok (.iload_n 1, 1) := by decide +kernel
theorem d_Resolver_noteFieldStart_5 : decode prog_4_method_11_code 5 = .ok (.aload_n 0, 1) := by decide +kernel
theorem d_Resolver_noteFieldStart_6 : decode prog_4_method_11_code 6 = .ok (.getfield 26, 3) := by decide +kernel
theorem d_Resolver_noteFieldStart_9 : decode prog_4_method_11_code 9 = .ok (.arraylength, 1) := by decide +kernel
theorem d_Resolver_noteFieldStart_10 : decode prog_4_method_11_code 10 = .ok (.if_icmp .lt 5, 3) := by decide +kernel
theorem d_Resolver_noteFieldStart_13 : decode prog_4_method_11_code 13 = .ok (.iconst 0, 1) := by decide +kernel
theorem d_Resolver_noteFieldStart_14 : decode prog_4_method_11_code 14 = .ok (.ireturn, 1) := by decide +kernel
theorem d_Resolver_noteFieldStart_15 : decode prog_4_method_11_code 15 = .ok (.aload_n 0, 1) := by decide +kernel
theorem d_Resolver_noteFieldStart_16 : decode prog_4_method_11_code 16 = .ok (.getfield 26, 3) := by decide +kernel
theorem d_Resolver_noteFieldStart_19 : decode prog_4_method_11_code 19 = .ok (.iload_n 1, 1) := by decide +kernel
theorem d_Resolver_noteFieldStart_20 : decode prog_4_method_11_code 20 = .ok (.aload_n 0, 1) := by decide +kernel
theorem d_Resolver_noteFieldStart_21 : decode prog_4_method_11_code 21 = .ok (.getfield 9, 3) := by decide +kernel
theorem d_Resolver_noteFieldStart_24 : decode prog_4_method_11_code 24 = .ok (.invokevirtual 152, 3) := by decide +kernel
theorem d_Resolver_noteFieldStart_27 : decode prog_4_method_11_code 27 = .ok (.iastore, 1) := by decide +kernel
theorem d_Resolver_noteFieldStart_28 : decode prog_4_method_11_code 28 = .ok (.iconst 1, 1) := by decide +kernel
theorem d_Resolver_noteFieldStart_29 : decode prog_4_method_11_code 29 = .ok (.ireturn, 1) := by decide +kernel
def Resolver_noteFieldStart_b (call : ax_Cf) (x0 : Option Nat) (x1 : Int32) (h : ax_Hp) : ax_O :=
  if x1 < 0 then
    ax_rz 0 h
  else
    (ax_gr h x0 1 5).bind fun v1 =>
    (ax_len h v1 1).bind fun v2 =>
    if x1 < v2 then
      (ax_gr h x0 1 5).bind fun v3 =>
      (ax_gr h x0 1 0).bind fun v4 =>
      ax_on h v4 0 <| ax_ci (call 27 [ax_A v4] h) fun v6 h5 =>
      (ax_st h5 v3 1 x1 (ax_I v6)).bind fun h7 =>
      ax_rz 1 h7
    else
      ax_rz 0 h
set_option maxHeartbeats 4000000 in
set_option maxRecDepth 20000 in
theorem Resolver_noteFieldStart_t {l : Launch} {G : ax_G} {d : Nat} {call : ax_Cf} (hcall : ax_Hc l G d call) (x0 : Option Nat) (x1 : Int32) (h : ax_Hp) {r : ax_Rs} {h' : ax_Hp} (ho : Resolver_noteFieldStart_b call x0 x1 h = some (r, h')) : ax_C l G (d + 1) y_Resolver_noteFieldStart (.code y_Resolver_noteFieldStart prog_4_method_11_code 2 (some (.boolean))) [ax_A x0, ax_I x1] h r h' := by
  refine ax_enter (by decide) (Nat.le_of_ble_eq_true rfl) ho (fun p e s mi args below meth c B E Nm => ?_)
  have B : ax_B G p s mi meth c "SchemaDesk$Resolver" prog_4_method_11_code 2 (some (.boolean)) := B
  show ax_W G p l e s mi args below meth c 2 (d + 1) h 0 [(0, ax_A x0), (1, ax_I x1)] [] h (Resolver_noteFieldStart_b call x0 x1 h)
  unfold Resolver_noteFieldStart_b
  refine ax_iload_n B 1 d_Resolver_noteFieldStart_0 rfl rfl ?_
  refine ax_if_lt B 13 d_Resolver_noteFieldStart_1 (by decide) ?_ ?_
  · refine ax_iconst (v := 0) B d_Resolver_noteFieldStart_13 (by decide) ?_
    exact ax_zreturn B d_Resolver_noteFieldStart_14
  · refine ax_iload_n B 1 d_Resolver_noteFieldStart_4 rfl rfl ?_
    refine ax_aload_n B 0 d_Resolver_noteFieldStart_5 rfl rfl ?_
    refine ax_getfr B cl_Resolver (by decide) fk_Resolver_26 d_Resolver_noteFieldStart_6 (fun v1 => ?_)
    refine ax_alen (kd := 1) B (by decide) d_Resolver_noteFieldStart_9 (fun v2 => ?_)
    refine ax_icmp_lt B 15 d_Resolver_noteFieldStart_10 (by decide) ?_ ?_
    · refine ax_aload_n B 0 d_Resolver_noteFieldStart_15 rfl rfl ?_
      refine ax_getfr B cl_Resolver (by decide) fk_Resolver_26 d_Resolver_noteFieldStart_16 (fun v3 => ?_)
      refine ax_iload_n B 1 d_Resolver_noteFieldStart_19 rfl rfl ?_
      refine ax_aload_n B 0 d_Resolver_noteFieldStart_20 rfl rfl ?_
      refine ax_getfr B cl_Resolver (by decide) fk_Resolver_9 d_Resolver_noteFieldStart_21 (fun v4 => ?_)
      refine ax_callVi (av := []) (rest := [ax_I x1, ax_A v3]) B E hm_Cursor_at cl_Cursor rfl wd_302 wd_303 lk_Resolver_152 d_Resolver_noteFieldStart_24 rfl (Nat.le_of_ble_eq_true rfl) (fun _ _ hh => hcall 27 _ _ _ _ hh) (fun v6 h5 => ?_)
      refine ax_iast (kd := 1) B (by decide) (by decide) rfl d_Resolver_noteFieldStart_27 (fun h7 => ?_)
      refine ax_iconst (v := 1) B d_Resolver_noteFieldStart_28 (by decide) ?_
      exact ax_zreturn B d_Resolver_noteFieldStart_29
    · refine ax_iconst (v := 0) B d_Resolver_noteFieldStart_13 (by decide) ?_
      exact ax_zreturn B d_Resolver_noteFieldStart_14

theorem d_Resolver_resolveField_0 : decode prog_4_method_12_code 0 = .ok (.aload_n 0, 1) := by decide +kernel
theorem d_Resolver_resolveField_1 : decode prog_4_method_12_code 1 = .ok (.getfield 15, 3) := by decide +kernel
theorem d_Resolver_resolveField_4 : decode prog_4_method_12_code 4 = .ok (.iload_n 1, 1) := by decide +kernel
theorem d_Resolver_resolveField_5 : decode prog_4_method_12_code 5 = .ok (.aload_n 0, 1) := by decide +kernel
theorem d_Resolver_resolveField_6 : decode prog_4_method_12_code 6 = .ok (.getfield 19, 3) := by decide +kernel
theorem d_Resolver_resolveField_9 : decode prog_4_method_12_code 9 = .ok (.iload_n 2, 1) := by decide +kernel
theorem d_Resolver_resolveField_10 : decode prog_4_method_12_code 10 = .ok (.invokevirtual 158, 3) := by decide +kernel
theorem d_Resolver_resolveField_13 : decode prog_4_method_12_code 13 = .ok (.invokevirtual 160, 3) := by decide +kernel
theorem d_Resolver_resolveField_16 : decode prog_4_method_12_code 16 = .ok (.istore 4, 2) := by decide +kernel
theorem d_Resolver_resolveField_18 : decode prog_4_method_12_code 18 = .ok (.iload 4, 2) := by decide +kernel
theorem d_Resolver_resolveField_20 : decode prog_4_method_12_code 20 = .ok (.iconst (-1), 1) := by decide +kernel
theorem d_Resolver_resolveField_21 : decode prog_4_method_12_code 21 = .ok (.if_icmp .ne 16, 3) := by decide +kernel
theorem d_Resolver_resolveField_24 : decode prog_4_method_12_code 24 = .ok (.aload_n 0, 1) := by decide +kernel
theorem d_Resolver_resolveField_25 : decode prog_4_method_12_code 25 = .ok (.aload_n 0, 1) := by decide +kernel
theorem d_Resolver_resolveField_26 : decode prog_4_method_12_code 26 = .ok (.getfield 19, 3) := by decide +kernel
theorem d_Resolver_resolveField_29 : decode prog_4_method_12_code 29 = .ok (.iload_n 2, 1) := by decide +kernel
theorem d_Resolver_resolveField_30 : decode prog_4_method_12_code 30 = .ok (.invokevirtual 163, 3) := by decide +kernel
theorem d_Resolver_resolveField_33 : decode prog_4_method_12_code 33 = .ok (.invokevirtual 166, 3) := by decide +kernel
theorem d_Resolver_resolveField_36 : decode prog_4_method_12_code 36 = .ok (.ireturn, 1) := by decide +kernel
theorem d_Resolver_resolveField_37 : decode prog_4_method_12_code 37 = .ok (.iload 4, 2) := by decide +kernel
theorem d_Resolver_resolveField_39 : decode prog_4_method_12_code 39 = .ok (.ifCond .lt 13, 3) := by decide +kernel
theorem d_Resolver_resolveField_42 : decode prog_4_method_12_code 42 = .ok (.iload 4, 2) := by decide +kernel
theorem d_Resolver_resolveField_44 : decode prog_4_method_12_code 44 = .ok (.aload_n 0, 1) := by decide +kernel
theorem d_Resolver_resolveField_45 : decode prog_4_method_12_code 45 = .ok (.getfield 26, 3) := by decide +kernel
theorem d_Resolver_resolveField_48 : decode prog_4_method_12_code 48 = .ok (.arraylength, 1) := by decide +kernel
theorem d_Resolver_resolveField_49 : decode prog_4_method_12_code 49 = .ok (.if_icmp .lt 5, 3) := by decide +kernel
theorem d_Resolver_resolveField_52 : decode prog_4_method_12_code 52 = .ok (.iconst 0, 1) := by decide +kernel
theorem d_Resolver_resolveField_53 : decode prog_4_method_12_code 53 = .ok (.ireturn, 1) := by decide +kernel
theorem d_Resolver_resolveField_54 : decode prog_4_method_12_code 54 = .ok (.aload_n 0, 1) := by decide +kernel
theorem d_Resolver_resolveField_55 : decode prog_4_method_12_code 55 = .ok (.getfield 9, 3) := by decide +kernel
theorem d_Resolver_resolveField_58 : decode prog_4_method_12_code 58 = .ok (.aload_n 0, 1) := by decide +kernel
theorem d_Resolver_resolveField_59 : decode prog_4_method_12_code 59 = .ok (.getfield 26, 3) := by decide +kernel
theorem d_Resolver_resolveField_62 : decode prog_4_method_12_code 62 = .ok (.iload 4, 2) := by decide +kernel
theorem d_Resolver_resolveField_64 : decode prog_4_method_12_code 64 = .ok (.iaload, 1) := by decide +kernel
theorem d_Resolver_resolveField_65 : decode prog_4_method_12_code 65 = .ok (.invokevirtual 39, 3) := by decide +kernel
theorem d_Resolver_resolveField_68 : decode prog_4_method_12_code 68 = .ok (.aload_n 0, 1) := by decide +kernel
theorem d_Resolver_resolveField_69 : decode prog_4_method_12_code 69 = .ok (.aload_n 0, 1) := by decide +kernel
theorem d_Resolver_resolveField_70 : decode prog_4_method_12_code 70 = .ok (.getfield 15, 3) := by decide +kernel
theorem d_Resolver_resolveField_73 : decode prog_4_method_12_code 73 = .ok (.iload 4, 2) := by decide +kernel
theorem d_Resolver_resolveField_75 : decode prog_4_method_12_code 75 = .ok (.invokevirtual 143, 3) := by decide +kernel
theorem d_Resolver_resolveField_78 : decode prog_4_method_12_code 78 = .ok (.aload_n 0, 1) := by decide +kernel
theorem d_Resolver_resolveField_79 : decode prog_4_method_12_code 79 = .ok (.getfield 19, 3) := by decide +kernel
theorem d_Resolver_resolveField_82 : decode prog_4_method_12_code 82 = .ok (.iload_n 2, 1) := by decide +kernel
theorem d_Resolver_resolveField_83 : decode prog_4_method_12_code 83 = .ok (.invokevirtual 143, 3) := by decide +kernel
theorem d_Resolver_resolveField_86 : decode prog_4_method_12_code 86 = .ok (.iload_n 3, 1) := by decide +kernel
theorem d_Resolver_resolveField_87 : decode prog_4_method_12_code 87 = .ok (.iconst 1, 1) := by decide +kernel
theorem d_Resolver_resolveField_88 : decode prog_4_method_12_code 88 = .ok (.iadd, 1) := by decide +kernel
theorem d_Resolver_resolveField_89 : decode prog_4_method_12_code 89 = .ok (.invokevirtual 45, 3) := by decide +kernel
theorem d_Resolver_resolveField_92 : decode prog_4_method_12_code 92 = .ok (.ireturn, 1) := by decide +kernel
def Resolver_resolveField_b (call : ax_Cf) (x0 : Option Nat) (x1 : Int32) (x2 : Int32) (x3 : Int32) (h : ax_Hp) : ax_O :=
  (ax_gr h x0 1 2).bind fun v1 =>
  (ax_gr h x0 1 3).bind fun v2 =>
  ax_on h v2 3 <| ax_ci (call 81 [ax_A v2, ax_I x2] h) fun v4 h3 =>
  ax_on h3 v1 3 <| ax_ci (call 82 [ax_A v1, ax_I x1, ax_I v4] h3) fun v6 h5 =>
  if v6 = (-1) then
    (ax_gr h5 x0 1 3).bind fun v22 =>
    ax_on h5 v22 3 <| ax_ci (call 83 [ax_A v22, ax_I x2] h5) fun v24 h23 =>
    ax_on h23 x0 1 <| ax_ci (call 139 [ax_A x0, ax_I v24] h23) fun v26 h25 =>
    ax_rz v26 h25
  else
    if v6 < 0 then
      ax_rz 0 h5
    else
      (ax_gr h5 x0 1 5).bind fun v7 =>
      (ax_len h5 v7 1).bind fun v8 =>
      if v6 < v8 then
        (ax_gr h5 x0 1 0).bind fun v9 =>
        (ax_gr h5 x0 1 5).bind fun v10 =>
        (ax_ldi h5 v10 1 v6).bind fun v11 =>
        ax_on h5 v9 0 <| ax_cv (call 125 [ax_A v9, ax_I v11] h5) fun h12 =>
        (ax_gr h12 x0 1 2).bind fun v14 =>
        ax_on h12 v14 3 <| ax_ci (call 65 [ax_A v14, ax_I v6] h12) fun v16 h15 =>
        (ax_gr h15 x0 1 3).bind fun v17 =>
        ax_on h15 v17 3 <| ax_ci (call 65 [ax_A v17, ax_I x2] h15) fun v19 h18 =>
        ax_on h18 x0 1 <| ax_ci (call 126 [ax_A x0, ax_I v16, ax_I v19, ax_I (x3 + 1)] h18) fun v21 h20 =>
        ax_rz v21 h20
      else
        ax_rz 0 h5
set_option maxHeartbeats 4000000 in
set_option maxRecDepth 20000 in
theorem Resolver_resolveField_t {l : Launch} {G : ax_G} {d : Nat} {call : ax_Cf} (hcall : ax_Hc l G d call) (x0 : Option Nat) (x1 : Int32) (x2 : Int32) (x3 : Int32) (h : ax_Hp) {r : ax_Rs} {h' : ax_Hp} (ho : Resolver_resolveField_b call x0 x1 x2 x3 h = some (r, h')) : ax_C l G (d + 1) y_Resolver_resolveField (.code y_Resolver_resolveField prog_4_method_12_code 5 (some (.boolean))) [ax_A x0, ax_I x1, ax_I x2, ax_I x3] h r h' := by
  refine ax_enter (by decide) (Nat.le_of_ble_eq_true rfl) ho (fun p e s mi args below meth c B E Nm => ?_)
  have B : ax_B G p s mi meth c "SchemaDesk$Resolver" prog_4_method_12_code 5 (some (.boolean)) := B
  show ax_W G p l e s mi args below meth c 5 (d + 1) h 0 [(0, ax_A x0), (1, ax_I x1), (2, ax_I x2), (3, ax_I x3)] [] h (Resolver_resolveField_b call x0 x1 x2 x3 h)
  unfold Resolver_resolveField_b
  refine ax_aload_n B 0 d_Resolver_resolveField_0 rfl rfl ?_
  refine ax_getfr B cl_Resolver (by decide) fk_Resolver_15 d_Resolver_resolveField_1 (fun v1 => ?_)
  refine ax_iload_n B 1 d_Resolver_resolveField_4 rfl rfl ?_
  refine ax_aload_n B 0 d_Resolver_resolveField_5 rfl rfl ?_
  refine ax_getfr B cl_Resolver (by decide) fk_Resolver_19 d_Resolver_resolveField_6 (fun v2 => ?_)
  refine ax_iload_n B 2 d_Resolver_resolveField_9 rfl rfl ?_
  refine ax_callVi (av := [ax_I x2]) (rest := [ax_I x1, ax_A v1]) B E hm_Schema_at cl_Schema rfl wd_527 wd_528 lk_Resolver_158 d_Resolver_resolveField_10 rfl (Nat.le_of_ble_eq_true rfl) (fun _ _ hh => hcall 81 _ _ _ _ hh) (fun v4 h3 => ?_)
  refine ax_callVi (av := [ax_I x1, ax_I v4]) (rest := []) B E hm_Schema_fieldNamed cl_Schema rfl wd_531 wd_532 lk_Resolver_160 d_Resolver_resolveField_13 rfl (Nat.le_of_ble_eq_true rfl) (fun _ _ hh => hcall 82 _ _ _ _ hh) (fun v6 h5 => ?_)
  refine ax_istore (tv2 := [(4, ax_I v6), (0, ax_A x0), (1, ax_I x1), (2, ax_I x2), (3, ax_I x3)]) B d_Resolver_resolveField_16 (by decide) rfl ?_
  refine ax_iload B 0 d_Resolver_resolveField_18 rfl ?_
  refine ax_iconst (v := (-1)) B d_Resolver_resolveField_20 (by decide) ?_
  refine ax_icmp_ne B 37 d_Resolver_resolveField_21 (by decide) ?_ ?_
  · refine ax_iload B 0 d_Resolver_resolveField_37 rfl ?_
    refine ax_if_lt B 52 d_Resolver_resolveField_39 (by decide) ?_ ?_
    · refine ax_iconst (v := 0) B d_Resolver_resolveField_52 (by decide) ?_
      exact ax_zreturn B d_Resolver_resolveField_53
    · refine ax_iload B 0 d_Resolver_resolveField_42 rfl ?_
      refine ax_aload_n B 1 d_Resolver_resolveField_44 rfl rfl ?_
      refine ax_getfr B cl_Resolver (by decide) fk_Resolver_26 d_Resolver_resolveField_45 (fun v7 => ?_)
      refine ax_alen (kd := 1) B (by decide) d_Resolver_resolveField_48 (fun v8 => ?_)
      refine ax_icmp_lt B 54 d_Resolver_resolveField_49 (by decide) ?_ ?_
      · refine ax_aload_n B 1 d_Resolver_resolveField_54 rfl rfl ?_
        refine ax_getfr B cl_Resolver (by decide) fk_Resolver_9 d_Resolver_resolveField_55 (fun v9 => ?_)
        refine ax_aload_n B 1 d_Resolver_resolveField_58 rfl rfl ?_
        refine ax_getfr B cl_Resolver (by decide) fk_Resolver_26 d_Resolver_resolveField_59 (fun v10 => ?_)
        refine ax_iload B 0 d_Resolver_resolveField_62 rfl ?_
        refine ax_iald (kd := 1) B (by decide) rfl d_Resolver_resolveField_64 (fun v11 => ?_)
        refine ax_callVv (av := [ax_I v11]) (rest := []) B E hm_Cursor_moveTo cl_Cursor rfl wd_783 wd_784 lk_Resolver_39 d_Resolver_resolveField_65 rfl (Nat.le_of_ble_eq_true rfl) (fun _ _ hh => hcall 125 _ _ _ _ hh) (fun h12 => ?_)
        refine ax_aload_n B 1 d_Resolver_resolveField_68 rfl rfl ?_
        refine ax_aload_n B 1 d_Resolver_resolveField_69 rfl rfl ?_
        refine ax_getfr B cl_Resolver (by decide) fk_Resolver_15 d_Resolver_resolveField_70 (fun v14 => ?_)
        refine ax_iload B 0 d_Resolver_resolveField_73 rfl ?_
        refine ax_callVi (av := [ax_I v6]) (rest := [ax_A x0]) B E hm_Schema_fieldType cl_Schema rfl wd_460 wd_461 lk_Resolver_143 d_Resolver_resolveField_75 rfl (Nat.le_of_ble_eq_true rfl) (fun _ _ hh => hcall 65 _ _ _ _ hh) (fun v16 h15 => ?_)
        refine ax_aload_n B 1 d_Resolver_resolveField_78 rfl rfl ?_
        refine ax_getfr B cl_Resolver (by decide) fk_Resolver_19 d_Resolver_resolveField_79 (fun v17 => ?_)
        refine ax_iload_n B 3 d_Resolver_resolveField_82 rfl rfl ?_
        refine ax_callVi (av := [ax_I x2]) (rest := [ax_I v16, ax_A x0]) B E hm_Schema_fieldType cl_Schema rfl wd_460 wd_461 lk_Resolver_143 d_Resolver_resolveField_83 rfl (Nat.le_of_ble_eq_true rfl) (fun _ _ hh => hcall 65 _ _ _ _ hh) (fun v19 h18 => ?_)
        refine ax_iload_n B 4 d_Resolver_resolveField_86 rfl rfl ?_
        refine ax_iconst (v := 1) B d_Resolver_resolveField_87 (by decide) ?_
        refine ax_iadd B d_Resolver_resolveField_88 ?_
        refine ax_callVi (av := [ax_I v16, ax_I v19, ax_I (x3 + 1)]) (rest := []) B E hm_Resolver_resolve cl_Resolver rfl wd_788 wp_28 lk_Resolver_45 d_Resolver_resolveField_89 rfl (Nat.le_of_ble_eq_true rfl) (fun _ _ hh => hcall 126 _ _ _ _ hh) (fun v21 h20 => ?_)
        exact ax_zreturn B d_Resolver_resolveField_92
      · refine ax_iconst (v := 0) B d_Resolver_resolveField_52 (by decide) ?_
        exact ax_zreturn B d_Resolver_resolveField_53
  · refine ax_aload_n B 1 d_Resolver_resolveField_24 rfl rfl ?_
    refine ax_aload_n B 1 d_Resolver_resolveField_25 rfl rfl ?_
    refine ax_getfr B cl_Resolver (by decide) fk_Resolver_19 d_Resolver_resolveField_26 (fun v22 => ?_)
    refine ax_iload_n B 3 d_Resolver_resolveField_29 rfl rfl ?_
    refine ax_callVi (av := [ax_I x2]) (rest := [ax_A x0]) B E hm_Schema_fieldDefault cl_Schema rfl wd_535 wd_536 lk_Resolver_163 d_Resolver_resolveField_30 rfl (Nat.le_of_ble_eq_true rfl) (fun _ _ hh => hcall 83 _ _ _ _ hh) (fun v24 h23 => ?_)
    refine ax_callVi (av := [ax_I v24]) (rest := []) B E hm_Resolver_addDefault cl_Resolver rfl wd_860 wp_37 lk_Resolver_166 d_Resolver_resolveField_33 rfl (Nat.le_of_ble_eq_true rfl) (fun _ _ hh => hcall 139 _ _ _ _ hh) (fun v26 h25 => ?_)
    exact ax_zreturn B d_Resolver_resolveField_36
