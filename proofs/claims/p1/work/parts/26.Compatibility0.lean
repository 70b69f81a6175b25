theorem d_Compatibility_canRead_0 : decode prog_2_method_2_code 0 = .ok (.aload_n 0, 1) := by decide +kernel
theorem d_Compatibility_canRead_1 : decode prog_2_method_2_code 1 = .ok (.iconst 0, 1) := by decide +kernel
theorem d_Compatibility_canRead_2 : decode prog_2_method_2_code 2 = .ok (.aload_n 1, 1) := by decide +kernel
theorem d_Compatibility_canRead_3 : decode prog_2_method_2_code 3 = .ok (.iconst 0, 1) := by decide +kernel
theorem d_Compatibility_canRead_4 : decode prog_2_method_2_code 4 = .ok (.iconst 0, 1) := by decide +kernel
theorem d_Compatibility_canRead_5 : decode prog_2_method_2_code 5 = .ok (.invokestatic 9, 3) := by decide +kernel
theorem d_Compatibility_canRead_8 : decode prog_2_method_2_code 8 = .ok (.ireturn, 1) := by decide +kernel
def Compatibility_canRead_b (call : ax_Cf) (x0 : Option Nat) (x1 : Option Nat) (h : ax_Hp) : ax_O :=
  ax_ci (call 72 [ax_A x0, ax_I 0, ax_A x1, ax_I 0, ax_I 0] h) fun v2 h1 =>
  ax_rz v2 h1
set_option maxHeartbeats 4000000 in
set_option maxRecDepth 20000 in
theorem Compatibility_canRead_t {l : Launch} {G : ax_G} {d : Nat} {call : ax_Cf} (hcall : ax_Hc l G d call) (x0 : Option Nat) (x1 : Option Nat) (h : ax_Hp) {r : ax_Rs} {h' : ax_Hp} (ho : Compatibility_canRead_b call x0 x1 h = some (r, h')) : ax_C l G (d + 1) y_Compatibility_canRead (.code y_Compatibility_canRead prog_2_method_2_code 2 (some (.boolean))) [ax_A x0, ax_A x1] h r h' := by
  refine ax_enter (by decide) (Nat.le_of_ble_eq_true rfl) ho (fun p e s mi args below meth c B E Nm => ?_)
  have B : ax_B G p s mi meth c "SchemaDesk$Compatibility" prog_2_method_2_code 2 (some (.boolean)) := B
  show ax_W G p l e s mi args below meth c 2 (d + 1) h 0 [(0, ax_A x0), (1, ax_A x1)] [] h (Compatibility_canRead_b call x0 x1 h)
  unfold Compatibility_canRead_b
  refine ax_aload_n B 0 d_Compatibility_canRead_0 rfl rfl ?_
  refine ax_iconst (v := 0) B d_Compatibility_canRead_1 (by decide) ?_
  refine ax_aload_n B 1 d_Compatibility_canRead_2 rfl rfl ?_
  refine ax_iconst (v := 0) B d_Compatibility_canRead_3 (by decide) ?_
  refine ax_iconst (v := 0) B d_Compatibility_canRead_4 (by decide) ?_
  refine ax_callSi (av := [ax_A x0, ax_I 0, ax_A x1, ax_I 0, ax_I 0]) (rest := []) B E hm_Compatibility_canReadType wd_491 lk_Compatibility_9 d_Compatibility_canRead_5 rfl (Nat.le_of_ble_eq_true rfl) (fun _ _ hh => hcall 72 _ _ _ _ hh) (fun v2 h1 => ?_)
  exact ax_zreturn B d_Compatibility_canRead_8

theorem d_Compatibility_canReadType_0 : decode prog_2_method_4_code 0 = .ok (.iload 4, 2) := by decide +kernel
theorem d_Compatibility_canReadType_2 : decode prog_2_method_4_code 2 = .ok (.bipush 12, 2) := by decide +kernel
theorem d_Compatibility_canReadType_4 : decode prog_2_method_4_code 4 = .ok (.if_icmp .le 5, 3) := by decide +kernel
theorem d_Compatibility_canReadType_7 : decode prog_2_method_4_code 7 = .ok (.iconst 0, 1) := by decide +kernel
theorem d_Compatibility_canReadType_8 : decode prog_2_method_4_code 8 = .ok (.ireturn, 1) := by decide +kernel
theorem d_Compatibility_canReadType_9 : decode prog_2_method_4_code 9 = .ok (.aload_n 2, 1) := by decide +kernel
theorem d_Compatibility_canReadType_10 : decode prog_2_method_4_code 10 = .ok (.iload_n 3, 1) := by decide +kernel
theorem d_Compatibility_canReadType_11 : decode prog_2_method_4_code 11 = .ok (.invokevirtual 19, 3) := by decide +kernel
theorem d_Compatibility_canReadType_14 : decode prog_2_method_4_code 14 = .ok (.istore 5, 2) := by decide +kernel
theorem d_Compatibility_canReadType_16 : decode prog_2_method_4_code 16 = .ok (.iload 5, 2) := by decide +kernel
theorem d_Compatibility_canReadType_18 : decode prog_2_method_4_code 18 = .ok (.bipush 85, 2) := by decide +kernel
theorem d_Compatibility_canReadType_20 : decode prog_2_method_4_code 20 = .ok (.if_icmp .ne 13, 3) := by decide +kernel
theorem d_Compatibility_canReadType_23 : decode prog_2_method_4_code 23 = .ok (.aload_n 0, 1) := by decide +kernel
theorem d_Compatibility_canReadType_24 : decode prog_2_method_4_code 24 = .ok (.iload_n 1, 1) := by decide +kernel
theorem d_Compatibility_canReadType_25 : decode prog_2_method_4_code 25 = .ok (.aload_n 2, 1) := by decide +kernel
theorem d_Compatibility_canReadType_26 : decode prog_2_method_4_code 26 = .ok (.iload_n 3, 1) := by decide +kernel
theorem d_Compatibility_canReadType_27 : decode prog_2_method_4_code 27 = .ok (.iload 4, 2) := by decide +kernel
theorem d_Compatibility_canReadType_29 : decode prog_2_method_4_code 29 = .ok (.invokestatic 25, 3) := by decide +kernel
theorem d_Compatibility_canReadType_32 : decode prog_2_method_4_code 32 = .ok (.ireturn, 1) := by decide +kernel
theorem d_Compatibility_canReadType_33 : decode prog_2_method_4_code 33 = .ok (.aload_n 0, 1) := by decide +kernel
theorem d_Compatibility_canReadType_34 : decode prog_2_method_4_code 34 = .ok (.iload_n 1, 1) := by decide +kernel
theorem d_Compatibility_canReadType_35 : decode prog_2_method_4_code 35 = .ok (.invokevirtual 19, 3) := by decide +kernel
theorem d_Compatibility_canReadType_38 : decode prog_2_method_4_code 38 = .ok (.istore 6, 2) := by decide +kernel
theorem d_Compatibility_canReadType_40 : decode prog_2_method_4_code 40 = .ok (.iload 6, 2) := by decide +kernel
theorem d_Compatibility_canReadType_42 : decode prog_2_method_4_code 42 = .ok (.bipush 85, 2) := by decide +kernel
theorem d_Compatibility_canReadType_44 : decode prog_2_method_4_code 44 = .ok (.if_icmp .ne 22, 3) := by decide +kernel
theorem d_Compatibility_canReadType_47 : decode prog_2_method_4_code 47 = .ok (.aload_n 0, 1) := by decide +kernel
theorem d_Compatibility_canReadType_48 : decode prog_2_method_4_code 48 = .ok (.iload_n 1, 1) := by decide +kernel
theorem d_Compatibility_canReadType_49 : decode prog_2_method_4_code 49 = .ok (.aload_n 2, 1) := by decide +kernel
theorem d_Compatibility_canReadType_50 : decode prog_2_method_4_code 50 = .ok (.iload_n 3, 1) := by decide +kernel
theorem d_Compatibility_canReadType_51 : decode prog_2_method_4_code 51 = .ok (.iload 4, 2) := by decide +kernel
theorem d_Compatibility_canReadType_53 : decode prog_2_method_4_code 53 = .ok (.invokestatic 15, 3) := by decide +kernel
theorem d_Compatibility_canReadType_56 : decode prog_2_method_4_code 56 = .ok (.iconst (-1), 1) := by decide +kernel
theorem d_Compatibility_canReadType_57 : decode prog_2_method_4_code 57 = .ok (.if_icmp .eq 7, 3) := by decide +kernel
theorem d_Compatibility_canReadType_60 : decode prog_2_method_4_code 60 = .ok (.iconst 1, 1) := by decide +kernel
theorem d_Compatibility_canReadType_61 : decode prog_2_method_4_code 61 = .ok (.goto 4, 3) := by decide +kernel
theorem d_Compatibility_canReadType_64 : decode prog_2_method_4_code 64 = .ok (.iconst 0, 1) := by decide +kernel
theorem d_Compatibility_canReadType_65 : decode prog_2_method_4_code 65 = .ok (.ireturn, 1) := by decide +kernel
theorem d_Compatibility_canReadType_66 : decode prog_2_method_4_code 66 = .ok (.iload 6, 2) := by decide +kernel
theorem d_Compatibility_canReadType_68 : decode prog_2_method_4_code 68 = .ok (.iload 5, 2) := by decide +kernel
theorem d_Compatibility_canReadType_70 : decode prog_2_method_4_code 70 = .ok (.if_icmp .eq 23, 3) := by decide +kernel
theorem d_Compatibility_canReadType_73 : decode prog_2_method_4_code 73 = .ok (.iload 5, 2) := by decide +kernel
theorem d_Compatibility_canReadType_75 : decode prog_2_method_4_code 75 = .ok (.bipush 73, 2) := by decide +kernel
theorem d_Compatibility_canReadType_77 : decode prog_2_method_4_code 77 = .ok (.if_icmp .ne 14, 3) := by decide +kernel
theorem d_Compatibility_canReadType_80 : decode prog_2_method_4_code 80 = .ok (.iload 6, 2) := by decide +kernel
theorem d_Compatibility_canReadType_82 : decode prog_2_method_4_code 82 = .ok (.bipush 76, 2) := by decide +kernel
theorem d_Compatibility_canReadType_84 : decode prog_2_method_4_code 84 = .ok (.if_icmp .ne 7, 3) := by decide +kernel
theorem d_Compatibility_canReadType_87 : decode prog_2_method_4_code 87 = .ok (.iconst 1, 1) := by decide +kernel
theorem d_Compatibility_canReadType_88 : decode prog_2_method_4_code 88 = .ok (.goto 4, 3) := by decide +kernel
theorem d_Compatibility_canReadType_91 : decode prog_2_method_4_code 91 = .ok (.iconst 0, 1) := by decide +kernel
theorem d_Compatibility_canReadType_92 : decode prog_2_method_4_code 92 = .ok (.ireturn, 1) := by decide +kernel
theorem d_Compatibility_canReadType_93 : decode prog_2_method_4_code 93 = .ok (.iload 5, 2) := by decide +kernel
theorem d_Compatibility_canReadType_95 : decode prog_2_method_4_code 95 = .ok (.lookupswitch 71 #[(65, 41), (69, 33), (82, 61)], 33) := by decide +kernel
theorem d_Compatibility_canReadType_128 : decode prog_2_method_4_code 128 = .ok (.aload_n 0, 1) := by decide +kernel
theorem d_Compatibility_canReadType_129 : decode prog_2_method_4_code 129 = .ok (.iload_n 1, 1) := by decide +kernel
theorem d_Compatibility_canReadType_130 : decode prog_2_method_4_code 130 = .ok (.aload_n 2, 1) := by decide +kernel
theorem d_Compatibility_canReadType_131 : decode prog_2_method_4_code 131 = .ok (.iload_n 3, 1) := by decide +kernel
theorem d_Compatibility_canReadType_132 : decode prog_2_method_4_code 132 = .ok (.invokestatic 28, 3) := by decide +kernel
theorem d_Compatibility_canReadType_135 : decode prog_2_method_4_code 135 = .ok (.ireturn, 1) := by decide +kernel
theorem d_Compatibility_canReadType_136 : decode prog_2_method_4_code 136 = .ok (.aload_n 0, 1) := by decide +kernel
theorem d_Compatibility_canReadType_137 : decode prog_2_method_4_code 137 = .ok (.aload_n 0, 1) := by decide +kernel
theorem d_Compatibility_canReadType_138 : decode prog_2_method_4_code 138 = .ok (.iload_n 1, 1) := by decide +kernel
theorem d_Compatibility_canReadType_139 : decode prog_2_method_4_code 139 = .ok (.invokevirtual 32, 3) := by decide +kernel
theorem d_Compatibility_canReadType_142 : decode prog_2_method_4_code 142 = .ok (.aload_n 2, 1) := by decide +kernel
theorem d_Compatibility_canReadType_143 : decode prog_2_method_4_code 143 = .ok (.aload_n 2, 1) := by decide +kernel
theorem d_Compatibility_canReadType_144 : decode prog_2_method_4_code 144 = .ok (.iload_n 3, 1) := by decide +kernel
theorem d_Compatibility_canReadType_145 : decode prog_2_method_4_code 145 = .ok (.invokevirtual 32, 3) := by decide +kernel
theorem d_Compatibility_canReadType_148 : decode prog_2_method_4_code 148 = .ok (.iload 4, 2) := by decide +kernel
theorem d_Compatibility_canReadType_150 : decode prog_2_method_4_code 150 = .ok (.iconst 1, 1) := by decide +kernel
theorem d_Compatibility_canReadType_151 : decode prog_2_method_4_code 151 = .ok (.iadd, 1) := by decide +kernel
theorem d_Compatibility_canReadType_152 : decode prog_2_method_4_code 152 = .ok (.invokestatic 9, 3) := by decide +kernel
theorem d_Compatibility_canReadType_155 : decode prog_2_method_4_code 155 = .ok (.ireturn, 1) := by decide +kernel
theorem d_Compatibility_canReadType_156 : decode prog_2_method_4_code 156 = .ok (.aload_n 0, 1) := by decide +kernel
theorem d_Compatibility_canReadType_157 : decode prog_2_method_4_code 157 = .ok (.iload_n 1, 1) := by decide +kernel
theorem d_Compatibility_canReadType_158 : decode prog_2_method_4_code 158 = .ok (.aload_n 2, 1) := by decide +kernel
theorem d_Compatibility_canReadType_159 : decode prog_2_method_4_code 159 = .ok (.iload_n 3, 1) := by decide +kernel
theorem d_Compatibility_canReadType_160 : decode prog_2_method_4_code 160 = .ok (.iload 4, 2) := by decide +kernel
theorem d_Compatibility_canReadType_162 : decode prog_2_method_4_code 162 = .ok (.invokestatic 35, 3) := by decide +kernel
theorem d_Compatibility_canReadType_165 : decode prog_2_method_4_code 165 = .ok (.ireturn, 1) := by decide +kernel
theorem d_Compatibility_canReadType_166 : decode prog_2_method_4_code 166 = .ok (.iconst 1, 1) := by decide +kernel
theorem d_Compatibility_canReadType_167 : decode prog_2_method_4_code 167 = .ok (.ireturn, 1) := by decide +kernel
def Compatibility_canReadType_b (call : ax_Cf) (x0 : Option Nat) (x1 : Int32) (x2 : Option Nat) (x3 : Int32) (x4 : Int32) (h : ax_Hp) : ax_O :=
  if x4 ≤ 12 then
    ax_on h x2 3 <| ax_ci (call 44 [ax_A x2, ax_I x3] h) fun v2 h1 =>
    if v2 = 85 then
      ax_ci (call 73 [ax_A x0, ax_I x1, ax_A x2, ax_I x3, ax_I x4] h1) fun v18 h17 =>
      ax_rz v18 h17
    else
      ax_on h1 x0 3 <| ax_ci (call 44 [ax_A x0, ax_I x1] h1) fun v4 h3 =>
      if v4 = 85 then
        ax_ci (call 74 [ax_A x0, ax_I x1, ax_A x2, ax_I x3, ax_I x4] h3) fun v16 h15 =>
        if v16 = (-1) then
          ax_rz 0 h15
        else
          ax_rz 1 h15
      else
        if v4 = v2 then
          if v2.toInt = 65 then
            ax_on h3 x0 3 <| ax_ci (call 57 [ax_A x0, ax_I x1] h3) fun v6 h5 =>
            ax_on h5 x2 3 <| ax_ci (call 57 [ax_A x2, ax_I x3] h5) fun v8 h7 =>
            ax_ci (call 72 [ax_A x0, ax_I v6, ax_A x2, ax_I v8, ax_I (x4 + 1)] h7) fun v10 h9 =>
            ax_rz v10 h9
          else
          if v2.toInt = 69 then
            ax_ci (call 75 [ax_A x0, ax_I x1, ax_A x2, ax_I x3] h3) fun v12 h11 =>
            ax_rz v12 h11
          else
          if v2.toInt = 82 then
            ax_ci (call 80 [ax_A x0, ax_I x1, ax_A x2, ax_I x3, ax_I x4] h3) fun v14 h13 =>
            ax_rz v14 h13
          else
          ax_rz 1 h3
        else
          if v2 = 73 then
            if v4 = 76 then
              ax_rz 1 h3
            else
              ax_rz 0 h3
          else
            ax_rz 0 h3
  else
    ax_rz 0 h
set_option maxHeartbeats 4000000 in
set_option maxRecDepth 20000 in
theorem Compatibility_canReadType_t {l : Launch} {G : ax_G} {d : Nat} {call : ax_Cf} (hcall : ax_Hc l G d call) (x0 : Option Nat) (x1 : Int32) (x2 : Option Nat) (x3 : Int32) (x4 : Int32) (h : ax_Hp) {r : ax_Rs} {h' : ax_Hp} (ho : Compatibility_canReadType_b call x0 x1 x2 x3 x4 h = some (r, h')) : ax_C l G (d + 1) y_Compatibility_canReadType (.code y_Compatibility_canReadType prog_2_method_4_code 7 (some (.boolean))) [ax_A x0, ax_I x1, ax_A x2, ax_I x3, ax_I x4] h r h' := by
  refine ax_enter (by decide) (Nat.le_of_ble_eq_true rfl) ho (fun p e s mi args below meth c B E Nm => ?_)
  have B : ax_B G p s mi meth c "SchemaDesk$Compatibility" prog_2_method_4_code 7 (some (.boolean)) := B
  show ax_W G p l e s mi args below meth c 7 (d + 1) h 0 [(0, ax_A x0), (1, ax_I x1), (2, ax_A x2), (3, ax_I x3), (4, ax_I x4)] [] h (Compatibility_canReadType_b call x0 x1 x2 x3 x4 h)
  unfold Compatibility_canReadType_b
  refine ax_iload B 4 d_Compatibility_canReadType_0 rfl ?_
  refine ax_bipush (v := 12) B d_Compatibility_canReadType_2 (by decide) ?_
  refine ax_icmp_le B 9 d_Compatibility_canReadType_4 (by decide) ?_ ?_
  · refine ax_aload_n B 2 d_Compatibility_canReadType_9 rfl rfl ?_
    refine ax_iload_n B 3 d_Compatibility_canReadType_10 rfl rfl ?_
    refine ax_callVi (av := [ax_I x3]) (rest := []) B E hm_Schema_kind cl_Schema rfl wd_367 wd_368 lk_Compatibility_19 d_Compatibility_canReadType_11 rfl (Nat.le_of_ble_eq_true rfl) (fun _ _ hh => hcall 44 _ _ _ _ hh) (fun v2 h1 => ?_)
    refine ax_istore (tv2 := [(5, ax_I v2), (0, ax_A x0), (1, ax_I x1), (2, ax_A x2), (3, ax_I x3), (4, ax_I x4)]) B d_Compatibility_canReadType_14 (by decide) rfl ?_
    refine ax_iload B 0 d_Compatibility_canReadType_16 rfl ?_
    refine ax_bipush (v := 85) B d_Compatibility_canReadType_18 (by decide) ?_
    refine ax_icmp_ne B 33 d_Compatibility_canReadType_20 (by decide) ?_ ?_
    · refine ax_aload_n B 1 d_Compatibility_canReadType_33 rfl rfl ?_
      refine ax_iload_n B 2 d_Compatibility_canReadType_34 rfl rfl ?_
      refine ax_callVi (av := [ax_I x1]) (rest := []) B E hm_Schema_kind cl_Schema rfl wd_367 wd_368 lk_Compatibility_19 d_Compatibility_canReadType_35 rfl (Nat.le_of_ble_eq_true rfl) (fun _ _ hh => hcall 44 _ _ _ _ hh) (fun v4 h3 => ?_)
      refine ax_istore (tv2 := [(6, ax_I v4), (5, ax_I v2), (0, ax_A x0), (1, ax_I x1), (2, ax_A x2), (3, ax_I x3), (4, ax_I x4)]) B d_Compatibility_canReadType_38 (by decide) rfl ?_
      refine ax_iload B 0 d_Compatibility_canReadType_40 rfl ?_
      refine ax_bipush (v := 85) B d_Compatibility_canReadType_42 (by decide) ?_
      refine ax_icmp_ne B 66 d_Compatibility_canReadType_44 (by decide) ?_ ?_
      · refine ax_iload B 0 d_Compatibility_canReadType_66 rfl ?_
        refine ax_iload B 1 d_Compatibility_canReadType_68 rfl ?_
        refine ax_icmp_eq B 93 d_Compatibility_canReadType_70 (by decide) ?_ ?_
        · refine ax_iload B 1 d_Compatibility_canReadType_93 rfl ?_
          refine ax_lookup B d_Compatibility_canReadType_95 (by decide) ?_
          refine ⟨_, _, rfl, ⟨136, by decide, ?_⟩, ?_⟩
          · refine ax_aload_n B 2 d_Compatibility_canReadType_136 rfl rfl ?_
            refine ax_aload_n B 2 d_Compatibility_canReadType_137 rfl rfl ?_
            refine ax_iload_n B 3 d_Compatibility_canReadType_138 rfl rfl ?_
            refine ax_callVi (av := [ax_I x1]) (rest := [ax_A x0]) B E hm_Schema_element cl_Schema rfl wd_426 wd_427 lk_Compatibility_32 d_Compatibility_canReadType_139 rfl (Nat.le_of_ble_eq_true rfl) (fun _ _ hh => hcall 57 _ _ _ _ hh) (fun v6 h5 => ?_)
            refine ax_aload_n B 4 d_Compatibility_canReadType_142 rfl rfl ?_
            refine ax_aload_n B 4 d_Compatibility_canReadType_143 rfl rfl ?_
            refine ax_iload_n B 5 d_Compatibility_canReadType_144 rfl rfl ?_
            refine ax_callVi (av := [ax_I x3]) (rest := [ax_A x2, ax_I v6, ax_A x0]) B E hm_Schema_element cl_Schema rfl wd_426 wd_427 lk_Compatibility_32 d_Compatibility_canReadType_145 rfl (Nat.le_of_ble_eq_true rfl) (fun _ _ hh => hcall 57 _ _ _ _ hh) (fun v8 h7 => ?_)
            refine ax_iload B 6 d_Compatibility_canReadType_148 rfl ?_
            refine ax_iconst (v := 1) B d_Compatibility_canReadType_150 (by decide) ?_
            refine ax_iadd B d_Compatibility_canReadType_151 ?_
            refine ax_callSi (av := [ax_A x0, ax_I v6, ax_A x2, ax_I v8, ax_I (x4 + 1)]) (rest := []) B E hm_Compatibility_canReadType wd_491 lk_Compatibility_9 d_Compatibility_canReadType_152 rfl (Nat.le_of_ble_eq_true rfl) (fun _ _ hh => hcall 72 _ _ _ _ hh) (fun v10 h9 => ?_)
            exact ax_zreturn B d_Compatibility_canReadType_155
          refine ⟨_, _, rfl, ⟨128, by decide, ?_⟩, ?_⟩
          · refine ax_aload_n B 2 d_Compatibility_canReadType_128 rfl rfl ?_
            refine ax_iload_n B 3 d_Compatibility_canReadType_129 rfl rfl ?_
            refine ax_aload_n B 4 d_Compatibility_canReadType_130 rfl rfl ?_
            refine ax_iload_n B 5 d_Compatibility_canReadType_131 rfl rfl ?_
            refine ax_callSi (av := [ax_A x0, ax_I x1, ax_A x2, ax_I x3]) (rest := []) B E hm_Compatibility_canReadSymbols wd_503 lk_Compatibility_28 d_Compatibility_canReadType_132 rfl (Nat.le_of_ble_eq_true rfl) (fun _ _ hh => hcall 75 _ _ _ _ hh) (fun v12 h11 => ?_)
            exact ax_zreturn B d_Compatibility_canReadType_135
          refine ⟨_, _, rfl, ⟨156, by decide, ?_⟩, ?_⟩
          · refine ax_aload_n B 2 d_Compatibility_canReadType_156 rfl rfl ?_
            refine ax_iload_n B 3 d_Compatibility_canReadType_157 rfl rfl ?_
            refine ax_aload_n B 4 d_Compatibility_canReadType_158 rfl rfl ?_
            refine ax_iload_n B 5 d_Compatibility_canReadType_159 rfl rfl ?_
            refine ax_iload B 6 d_Compatibility_canReadType_160 rfl ?_
            refine ax_callSi (av := [ax_A x0, ax_I x1, ax_A x2, ax_I x3, ax_I x4]) (rest := []) B E hm_Compatibility_canReadFields wd_524 lk_Compatibility_35 d_Compatibility_canReadType_162 rfl (Nat.le_of_ble_eq_true rfl) (fun _ _ hh => hcall 80 _ _ _ _ hh) (fun v14 h13 => ?_)
            exact ax_zreturn B d_Compatibility_canReadType_165
          refine ⟨166, by decide, ?_⟩
          refine ax_iconst (v := 1) B d_Compatibility_canReadType_166 (by decide) ?_
          exact ax_zreturn B d_Compatibility_canReadType_167
        · refine ax_iload B 1 d_Compatibility_canReadType_73 rfl ?_
          refine ax_bipush (v := 73) B d_Compatibility_canReadType_75 (by decide) ?_
          refine ax_icmp_ne B 91 d_Compatibility_canReadType_77 (by decide) ?_ ?_
          · refine ax_iconst (v := 0) B d_Compatibility_canReadType_91 (by decide) ?_
            exact ax_zreturn B d_Compatibility_canReadType_92
          · refine ax_iload B 0 d_Compatibility_canReadType_80 rfl ?_
            refine ax_bipush (v := 76) B d_Compatibility_canReadType_82 (by decide) ?_
            refine ax_icmp_ne B 91 d_Compatibility_canReadType_84 (by decide) ?_ ?_
            · refine ax_iconst (v := 0) B d_Compatibility_canReadType_91 (by decide) ?_
              exact ax_zreturn B d_Compatibility_canReadType_92
            · refine ax_iconst (v := 1) B d_Compatibility_canReadType_87 (by decide) ?_
              refine ax_goto B 92 d_Compatibility_canReadType_88 (by decide) ?_
              exact ax_zreturn B d_Compatibility_canReadType_92
      · refine ax_aload_n B 2 d_Compatibility_canReadType_47 rfl rfl ?_
        refine ax_iload_n B 3 d_Compatibility_canReadType_48 rfl rfl ?_
        refine ax_aload_n B 4 d_Compatibility_canReadType_49 rfl rfl ?_
        refine ax_iload_n B 5 d_Compatibility_canReadType_50 rfl rfl ?_
        refine ax_iload B 6 d_Compatibility_canReadType_51 rfl ?_
        refine ax_callSi (av := [ax_A x0, ax_I x1, ax_A x2, ax_I x3, ax_I x4]) (rest := []) B E hm_Compatibility_readingBranch wd_500 lk_Compatibility_15 d_Compatibility_canReadType_53 rfl (Nat.le_of_ble_eq_true rfl) (fun _ _ hh => hcall 74 _ _ _ _ hh) (fun v16 h15 => ?_)
        refine ax_iconst (v := (-1)) B d_Compatibility_canReadType_56 (by decide) ?_
        refine ax_icmp_eq B 64 d_Compatibility_canReadType_57 (by decide) ?_ ?_
        · refine ax_iconst (v := 0) B d_Compatibility_canReadType_64 (by decide) ?_
          exact ax_zreturn B d_Compatibility_canReadType_65
        · refine ax_iconst (v := 1) B d_Compatibility_canReadType_60 (by decide) ?_
          refine ax_goto B 65 d_Compatibility_canReadType_61 (by decide) ?_
          exact ax_zreturn B d_Compatibility_canReadType_65
    · refine ax_aload_n B 1 d_Compatibility_canReadType_23 rfl rfl ?_
      refine ax_iload_n B 2 d_Compatibility_canReadType_24 rfl rfl ?_
      refine ax_aload_n B 3 d_Compatibility_canReadType_25 rfl rfl ?_
      refine ax_iload_n B 4 d_Compatibility_canReadType_26 rfl rfl ?_
      refine ax_iload B 5 d_Compatibility_canReadType_27 rfl ?_
      refine ax_callSi (av := [ax_A x0, ax_I x1, ax_A x2, ax_I x3, ax_I x4]) (rest := []) B E hm_Compatibility_canReadBranches wd_495 lk_Compatibility_25 d_Compatibility_canReadType_29 rfl (Nat.le_of_ble_eq_true rfl) (fun _ _ hh => hcall 73 _ _ _ _ hh) (fun v18 h17 => ?_)
      exact ax_zreturn B d_Compatibility_canReadType_32
  · refine ax_iconst (v := 0) B d_Compatibility_canReadType_7 (by decide) ?_
    exact ax_zreturn B d_Compatibility_canReadType_8

theorem d_Compatibility_canReadBranches_0 : decode prog_2_method_6_code 0 = .ok (.aload_n 2, 1) := by decide +kernel
theorem d_Compatibility_canReadBranches_1 : decode prog_2_method_6_code 1 = .ok (.iload_n 3, 1) := by decide +kernel
theorem d_Compatibility_canReadBranches_2 : decode prog_2_method_6_code 2 = .ok (.invokevirtual 38, 3) := by decide +kernel
theorem d_Compatibility_canReadBranches_5 : decode prog_2_method_6_code 5 = .ok (.istore 5, 2) := by decide +kernel
theorem d_Compatibility_canReadBranches_7 : decode prog_2_method_6_code 7 = .ok (.iconst 0, 1) := by decide +kernel
theorem d_Compatibility_canReadBranches_8 : decode prog_2_method_6_code 8 = .ok (.istore 6, 2) := by decide +kernel
theorem d_Compatibility_canReadBranches_10 : decode prog_2_method_6_code 10 = .ok (.iload 6, 2) := by decide +kernel
theorem d_Compatibility_canReadBranches_12 : decode prog_2_method_6_code 12 = .ok (.iconst 4, 1) := by decide +kernel
theorem d_Compatibility_canReadBranches_13 : decode prog_2_method_6_code 13 = .ok (.if_icmp .ge 40, 3) := by decide +kernel
theorem d_Compatibility_canReadBranches_16 : decode prog_2_method_6_code 16 = .ok (.iload 5, 2) := by decide +kernel
theorem d_Compatibility_canReadBranches_18 : decode prog_2_method_6_code 18 = .ok (.iconst (-1), 1) := by decide +kernel
theorem d_Compatibility_canReadBranches_19 : decode prog_2_method_6_code 19 = .ok (.if_icmp .eq 34, 3) := by decide +kernel
theorem d_Compatibility_canReadBranches_22 : decode prog_2_method_6_code 22 = .ok (.aload_n 0, 1) := by decide +kernel
theorem d_Compatibility_canReadBranches_23 : decode prog_2_method_6_code 23 = .ok (.iload_n 1, 1) := by decide +kernel
theorem d_Compatibility_canReadBranches_24 : decode prog_2_method_6_code 24 = .ok (.aload_n 2, 1) := by decide +kernel
theorem d_Compatibility_canReadBranches_25 : decode prog_2_method_6_code 25 = .ok (.iload 5, 2) := by decide +kernel
theorem d_Compatibility_canReadBranches_27 : decode prog_2_method_6_code 27 = .ok (.iload 4, 2) := by decide +kernel
theorem d_Compatibility_canReadBranches_29 : decode prog_2_method_6_code 29 = .ok (.iconst 1, 1) := by decide +kernel
theorem d_Compatibility_canReadBranches_30 : decode prog_2_method_6_code 30 = .ok (.iadd, 1) := by decide +kernel
theorem d_Compatibility_canReadBranches_31 : decode prog_2_method_6_code 31 = .ok (.invokestatic 9, 3) := by decide +kernel
theorem d_Compatibility_canReadBranches_34 : decode prog_2_method_6_code 34 = .ok (.ifCond .ne 5, 3) := by decide +kernel
theorem d_Compatibility_canReadBranches_37 : decode prog_2_method_6_code 37 = .ok (.iconst 0, 1) := by decide +kernel
theorem d_Compatibility_canReadBranches_38 : decode prog_2_method_6_code 38 = .ok (.ireturn, 1) := by decide +kernel
theorem d_Compatibility_canReadBranches_39 : decode prog_2_method_6_code 39 = .ok (.aload_n 2, 1) := by decide +kernel
theorem d_Compatibility_canReadBranches_40 : decode prog_2_method_6_code 40 = .ok (.iload 5, 2) := by decide +kernel
theorem d_Compatibility_canReadBranches_42 : decode prog_2_method_6_code 42 = .ok (.invokevirtual 41, 3) := by decide +kernel
theorem d_Compatibility_canReadBranches_45 : decode prog_2_method_6_code 45 = .ok (.istore 5, 2) := by decide +kernel
theorem d_Compatibility_canReadBranches_47 : decode prog_2_method_6_code 47 = .ok (.iinc 6 1, 3) := by decide +kernel
theorem d_Compatibility_canReadBranches_50 : decode prog_2_method_6_code 50 = .ok (.goto (-40), 3) := by decide +kernel
theorem d_Compatibility_canReadBranches_53 : decode prog_2_method_6_code 53 = .ok (.iconst 1, 1) := by decide +kernel
theorem d_Compatibility_canReadBranches_54 : decode prog_2_method_6_code 54 = .ok (.ireturn, 1) := by decide +kernel
def Compatibility_canReadBranches_bd10 (call : ax_Cf)  (k10 : Option Nat → Int32 → Option Nat → Int32 → Int32 → Int32 → ax_Hp → ax_O) (x0 : Option Nat) (x1 : Int32) (x2 : Option Nat) (x4 : Int32) (x5 : Int32) (x6 : Int32) (h : ax_Hp) : ax_O :=
  if 4 ≤ x6 then
    ax_rz 1 h
  else
    if x5 = (-1) then
      ax_rz 1 h
    else
      ax_ci (call 72 [ax_A x0, ax_I x1, ax_A x2, ax_I x5, ax_I (x4 + 1)] h) fun v4 h3 =>
      if v4 = 0 then
        ax_rz 0 h3
      else
        ax_on h3 x2 3 <| ax_ci (call 63 [ax_A x2, ax_I x5] h3) fun v6 h5 =>
        k10 x0 x1 x2 x4 v6 (x6 + 1) h5
def Compatibility_canReadBranches_lp10 (call : ax_Cf)  : Nat → Option Nat → Int32 → Option Nat → Int32 → Int32 → Int32 → ax_Hp → ax_O
  | 0 => fun _ _ _ _ _ _ _ => none
  | n + 1 => Compatibility_canReadBranches_bd10 call  (Compatibility_canReadBranches_lp10 call  n)
set_option maxHeartbeats 4000000 in
set_option maxRecDepth 20000 in
theorem Compatibility_canReadBranches_lb10 {l : Launch} {G : ax_G} {d : Nat} {call : ax_Cf} (hcall : ax_Hc l G d call) {p : Program} {e : Env} {s : State} {mi : MethodId} {args : Array Value} {below : List Frame} {meth : Method} {c : Code} {h0 : ax_Hp} (B : ax_B G p s mi meth c "SchemaDesk$Compatibility" prog_2_method_6_code 7 (some (.boolean))) (E : c.exceptionTable.isEmpty = true) (Nm : meth.name = y_Compatibility_canReadBranches.name)   {k10 : Option Nat → Int32 → Option Nat → Int32 → Int32 → Int32 → ax_Hp → ax_O} (hk10 : ∀ (x0 : Option Nat) (x1 : Int32) (x2 : Option Nat) (x4 : Int32) (x5 : Int32) (x6 : Int32) (h : ax_Hp), ax_W G p l e s mi args below meth c 7 (d + 1) h0 10 [(0, ax_A x0), (1, ax_I x1), (2, ax_A x2), (4, ax_I x4), (5, ax_I x5), (6, ax_I x6)] [] h (k10 x0 x1 x2 x4 x5 x6 h)) (x0 : Option Nat) (x1 : Int32) (x2 : Option Nat) (x4 : Int32) (x5 : Int32) (x6 : Int32) (h : ax_Hp) : ax_W G p l e s mi args below meth c 7 (d + 1) h0 10 [(0, ax_A x0), (1, ax_I x1), (2, ax_A x2), (4, ax_I x4), (5, ax_I x5), (6, ax_I x6)] [] h (Compatibility_canReadBranches_bd10 call  k10 x0 x1 x2 x4 x5 x6 h) := by
  unfold Compatibility_canReadBranches_bd10
  refine ax_iload B 5 d_Compatibility_canReadBranches_10 rfl ?_
  refine ax_iconst (v := 4) B d_Compatibility_canReadBranches_12 (by decide) ?_
  refine ax_icmp_ge B 53 d_Compatibility_canReadBranches_13 (by decide) ?_ ?_
  · refine ax_iconst (v := 1) B d_Compatibility_canReadBranches_53 (by decide) ?_
    exact ax_zreturn B d_Compatibility_canReadBranches_54
  · refine ax_iload B 4 d_Compatibility_canReadBranches_16 rfl ?_
    refine ax_iconst (v := (-1)) B d_Compatibility_canReadBranches_18 (by decide) ?_
    refine ax_icmp_eq B 53 d_Compatibility_canReadBranches_19 (by decide) ?_ ?_
    · refine ax_iconst (v := 1) B d_Compatibility_canReadBranches_53 (by decide) ?_
      exact ax_zreturn B d_Compatibility_canReadBranches_54
    · refine ax_aload_n B 0 d_Compatibility_canReadBranches_22 rfl rfl ?_
      refine ax_iload_n B 1 d_Compatibility_canReadBranches_23 rfl rfl ?_
      refine ax_aload_n B 2 d_Compatibility_canReadBranches_24 rfl rfl ?_
      refine ax_iload B 4 d_Compatibility_canReadBranches_25 rfl ?_
      refine ax_iload B 3 d_Compatibility_canReadBranches_27 rfl ?_
      refine ax_iconst (v := 1) B d_Compatibility_canReadBranches_29 (by decide) ?_
      refine ax_iadd B d_Compatibility_canReadBranches_30 ?_
      refine ax_callSi (av := [ax_A x0, ax_I x1, ax_A x2, ax_I x5, ax_I (x4 + 1)]) (rest := []) B E hm_Compatibility_canReadType wd_491 lk_Compatibility_9 d_Compatibility_canReadBranches_31 rfl (Nat.le_of_ble_eq_true rfl) (fun _ _ hh => hcall 72 _ _ _ _ hh) (fun v4 h3 => ?_)
      refine ax_if_ne B 39 d_Compatibility_canReadBranches_34 (by decide) ?_ ?_
      · refine ax_aload_n B 2 d_Compatibility_canReadBranches_39 rfl rfl ?_
        refine ax_iload B 4 d_Compatibility_canReadBranches_40 rfl ?_
        refine ax_callVi (av := [ax_I x5]) (rest := []) B E hm_Schema_nextPart cl_Schema rfl wd_452 wd_453 lk_Compatibility_41 d_Compatibility_canReadBranches_42 rfl (Nat.le_of_ble_eq_true rfl) (fun _ _ hh => hcall 63 _ _ _ _ hh) (fun v6 h5 => ?_)
        refine ax_istore (tv2 := [(5, ax_I v6), (0, ax_A x0), (1, ax_I x1), (2, ax_A x2), (4, ax_I x4), (6, ax_I x6)]) B d_Compatibility_canReadBranches_45 (by decide) rfl ?_
        refine ax_iinc (v := x6 + 1) (tv2 := [(6, ax_I (x6 + 1)), (5, ax_I v6), (0, ax_A x0), (1, ax_I x1), (2, ax_A x2), (4, ax_I x4)]) B 5 d_Compatibility_canReadBranches_47 rfl (congrArg (_ + ·) (by decide)) (by decide) rfl ?_
        refine ax_goto B 10 d_Compatibility_canReadBranches_50 (by decide) ?_
        refine ax_sub (tv2 := [(0, ax_A x0), (1, ax_I x1), (2, ax_A x2), (4, ax_I x4), (5, ax_I v6), (6, ax_I (x6 + 1))]) [2, 3, 4, 5, 1, 0] rfl ?_
        exact hk10 x0 x1 x2 x4 v6 (x6 + 1) h5
      · refine ax_iconst (v := 0) B d_Compatibility_canReadBranches_37 (by decide) ?_
        exact ax_zreturn B d_Compatibility_canReadBranches_38
theorem Compatibility_canReadBranches_lq10 {l : Launch} {G : ax_G} {d : Nat} {call : ax_Cf} (hcall : ax_Hc l G d call) {p : Program} {e : Env} {s : State} {mi : MethodId} {args : Array Value} {below : List Frame} {meth : Method} {c : Code} {h0 : ax_Hp} (B : ax_B G p s mi meth c "SchemaDesk$Compatibility" prog_2_method_6_code 7 (some (.boolean))) (E : c.exceptionTable.isEmpty = true) (Nm : meth.name = y_Compatibility_canReadBranches.name)   : ∀ (n : Nat) (x0 : Option Nat) (x1 : Int32) (x2 : Option Nat) (x4 : Int32) (x5 : Int32) (x6 : Int32) (h : ax_Hp), ax_W G p l e s mi args below meth c 7 (d + 1) h0 10 [(0, ax_A x0), (1, ax_I x1), (2, ax_A x2), (4, ax_I x4), (5, ax_I x5), (6, ax_I x6)] [] h (Compatibility_canReadBranches_lp10 call  n x0 x1 x2 x4 x5 x6 h)
  | 0, _, _, _, _, _, _, _ => ax_none
  | n + 1, x0, x1, x2, x4, x5, x6, h => Compatibility_canReadBranches_lb10 hcall B E Nm   (Compatibility_canReadBranches_lq10 hcall B E Nm   n) x0 x1 x2 x4 x5 x6 h
def Compatibility_canReadBranches_b (call : ax_Cf) (x0 : Option Nat) (x1 : Int32) (x2 : Option Nat) (x3 : Int32) (x4 : Int32) (h : ax_Hp) : ax_O :=
  ax_on h x2 3 <| ax_ci (call 60 [ax_A x2, ax_I x3] h) fun v2 h1 =>
  Compatibility_canReadBranches_lp10 call ax_fuel x0 x1 x2 x4 v2 0 h1
set_option maxHeartbeats 4000000 in
set_option maxRecDepth 20000 in
theorem Compatibility_canReadBranches_t {l : Launch} {G : ax_G} {d : Nat} {call : ax_Cf} (hcall : ax_Hc l G d call) (x0 : Option Nat) (x1 : Int32) (x2 : Option Nat) (x3 : Int32) (x4 : Int32) (h : ax_Hp) {r : ax_Rs} {h' : ax_Hp} (ho : Compatibility_canReadBranches_b call x0 x1 x2 x3 x4 h = some (r, h')) : ax_C l G (d + 1) y_Compatibility_canReadBranches (.code y_Compatibility_canReadBranches prog_2_method_6_code 7 (some (.boolean))) [ax_A x0, ax_I x1, ax_A x2, ax_I x3, ax_I x4] h r h' := by
  refine ax_enter (by decide) (Nat.le_of_ble_eq_true rfl) ho (fun p e s mi args below meth c B E Nm => ?_)
  have B : ax_B G p s mi meth c "SchemaDesk$Compatibility" prog_2_method_6_code 7 (some (.boolean)) := B
  show ax_W G p l e s mi args below meth c 7 (d + 1) h 0 [(0, ax_A x0), (1, ax_I x1), (2, ax_A x2), (3, ax_I x3), (4, ax_I x4)] [] h (Compatibility_canReadBranches_b call x0 x1 x2 x3 x4 h)
  unfold Compatibility_canReadBranches_b
  refine ax_aload_n B 2 d_Compatibility_canReadBranches_0 rfl rfl ?_
  refine ax_iload_n B 3 d_Compatibility_canReadBranches_1 rfl rfl ?_
  refine ax_callVi (av := [ax_I x3]) (rest := []) B E hm_Schema_firstPart cl_Schema rfl wd_439 wd_440 lk_Compatibility_38 d_Compatibility_canReadBranches_2 rfl (Nat.le_of_ble_eq_true rfl) (fun _ _ hh => hcall 60 _ _ _ _ hh) (fun v2 h1 => ?_)
  refine ax_istore (tv2 := [(5, ax_I v2), (0, ax_A x0), (1, ax_I x1), (2, ax_A x2), (3, ax_I x3), (4, ax_I x4)]) B d_Compatibility_canReadBranches_5 (by decide) rfl ?_
  refine ax_iconst (v := 0) B d_Compatibility_canReadBranches_7 (by decide) ?_
  refine ax_istore (tv2 := [(6, ax_I 0), (5, ax_I v2), (0, ax_A x0), (1, ax_I x1), (2, ax_A x2), (3, ax_I x3), (4, ax_I x4)]) B d_Compatibility_canReadBranches_8 (by decide) rfl ?_
  refine ax_sub (tv2 := [(0, ax_A x0), (1, ax_I x1), (2, ax_A x2), (4, ax_I x4), (5, ax_I v2), (6, ax_I 0)]) [2, 3, 4, 6, 1, 0] rfl ?_
  exact Compatibility_canReadBranches_lq10 hcall B E Nm ax_fuel x0 x1 x2 x4 v2 0 h1

theorem d_Compatibility_readingBranch_0 : decode prog_2_method_5_code 0 = .ok (.aload_n 0, 1) := by decide +kernel
theorem d_Compatibility_readingBranch_1 : decode prog_2_method_5_code 1 = .ok (.iload_n 1, 1) := by decide +kernel
theorem d_Compatibility_readingBranch_2 : decode prog_2_method_5_code 2 = .ok (.invokevirtual 38, 3) := by decide +kernel
theorem d_Compatibility_readingBranch_5 : decode prog_2_method_5_code 5 = .ok (.istore 5, 2) := by decide +kernel
theorem d_Compatibility_readingBranch_7 : decode prog_2_method_5_code 7 = .ok (.iconst 0, 1) := by decide +kernel
theorem d_Compatibility_readingBranch_8 : decode prog_2_method_5_code 8 = .ok (.istore 6, 2) := by decide +kernel
theorem d_Compatibility_readingBranch_10 : decode prog_2_method_5_code 10 = .ok (.iload 6, 2) := by decide +kernel
theorem d_Compatibility_readingBranch_12 : decode prog_2_method_5_code 12 = .ok (.iconst 4, 1) := by decide +kernel
theorem d_Compatibility_readingBranch_13 : decode prog_2_method_5_code 13 = .ok (.if_icmp .ge 41, 3) := by decide +kernel
theorem d_Compatibility_readingBranch_16 : decode prog_2_method_5_code 16 = .ok (.iload 5, 2) := by decide +kernel
theorem d_Compatibility_readingBranch_18 : decode prog_2_method_5_code 18 = .ok (.iconst (-1), 1) := by decide +kernel
theorem d_Compatibility_readingBranch_19 : decode prog_2_method_5_code 19 = .ok (.if_icmp .eq 35, 3) := by decide +kernel
theorem d_Compatibility_readingBranch_22 : decode prog_2_method_5_code 22 = .ok (.aload_n 0, 1) := by decide +kernel
theorem d_Compatibility_readingBranch_23 : decode prog_2_method_5_code 23 = .ok (.iload 5, 2) := by decide +kernel
theorem d_Compatibility_readingBranch_25 : decode prog_2_method_5_code 25 = .ok (.aload_n 2, 1) := by decide +kernel
theorem d_Compatibility_readingBranch_26 : decode prog_2_method_5_code 26 = .ok (.iload_n 3, 1) := by decide +kernel
theorem d_Compatibility_readingBranch_27 : decode prog_2_method_5_code 27 = .ok (.iload 4, 2) := by decide +kernel
theorem d_Compatibility_readingBranch_29 : decode prog_2_method_5_code 29 = .ok (.iconst 1, 1) := by decide +kernel
theorem d_Compatibility_readingBranch_30 : decode prog_2_method_5_code 30 = .ok (.iadd, 1) := by decide +kernel
theorem d_Compatibility_readingBranch_31 : decode prog_2_method_5_code 31 = .ok (.invokestatic 9, 3) := by decide +kernel
theorem d_Compatibility_readingBranch_34 : decode prog_2_method_5_code 34 = .ok (.ifCond .eq 6, 3) := by decide +kernel
theorem d_Compatibility_readingBranch_37 : decode prog_2_method_5_code 37 = .ok (.iload 6, 2) := by decide +kernel
theorem d_Compatibility_readingBranch_39 : decode prog_2_method_5_code 39 = .ok (.ireturn, 1) := by decide +kernel
theorem d_Compatibility_readingBranch_40 : decode prog_2_method_5_code 40 = .ok (.aload_n 0, 1) := by decide +kernel
theorem d_Compatibility_readingBranch_41 : decode prog_2_method_5_code 41 = .ok (.iload 5, 2) := by decide +kernel
theorem d_Compatibility_readingBranch_43 : decode prog_2_method_5_code 43 = .ok (.invokevirtual 41, 3) := by decide +kernel
theorem d_Compatibility_readingBranch_46 : decode prog_2_method_5_code 46 = .ok (.istore 5, 2) := by decide +kernel
theorem d_Compatibility_readingBranch_48 : decode prog_2_method_5_code 48 = .ok (.iinc 6 1, 3) := by decide +kernel
theorem d_Compatibility_readingBranch_51 : decode prog_2_method_5_code 51 = .ok (.goto (-41), 3) := by decide +kernel
theorem d_Compatibility_readingBranch_54 : decode prog_2_method_5_code 54 = .ok (.iconst (-1), 1) := by decide +kernel
theorem d_Compatibility_readingBranch_55 : decode prog_2_method_5_code 55 = .ok (.ireturn, 1) := by decide +kernel
def Compatibility_readingBranch_bd10 (call : ax_Cf)  (k10 : Option Nat → Option Nat → Int32 → Int32 → Int32 → Int32 → ax_Hp → ax_O) (x0 : Option Nat) (x2 : Option Nat) (x3 : Int32) (x4 : Int32) (x5 : Int32) (x6 : Int32) (h : ax_Hp) : ax_O :=
  if 4 ≤ x6 then
    ax_ri (-1) h
  else
    if x5 = (-1) then
      ax_ri (-1) h
    else
      ax_ci (call 72 [ax_A x0, ax_I x5, ax_A x2, ax_I x3, ax_I (x4 + 1)] h) fun v4 h3 =>
      if v4 = 0 then
        ax_on h3 x0 3 <| ax_ci (call 63 [ax_A x0, ax_I x5] h3) fun v6 h5 =>
        k10 x0 x2 x3 x4 v6 (x6 + 1) h5
      else
        ax_ri x6 h3
def Compatibility_readingBranch_lp10 (call : ax_Cf)  : Nat → Option Nat → Option Nat → Int32 → Int32 → Int32 → Int32 → ax_Hp → ax_O
  | 0 => fun _ _ _ _ _ _ _ => none
  | n + 1 => Compatibility_readingBranch_bd10 call  (Compatibility_readingBranch_lp10 call  n)
set_option maxHeartbeats 4000000 in
set_option maxRecDepth 20000 in
theorem Compatibility_readingBranch_lb10 {l : Launch} {G : ax_G} {d : Nat} {call : ax_Cf} (hcall : ax_Hc l G d call) {p : Program} {e : Env} {s : State} {mi : MethodId} {args : Array Value} {below : List Frame} {meth : Method} {c : Code} {h0 : ax_Hp} (B : ax_B G p s mi meth c "SchemaDesk$Compatibility" prog_2_method_5_code 7 (some (.int))) (E : c.exceptionTable.isEmpty = true) (Nm : meth.name = y_Compatibility_readingBranch.name)   {k10 : Option Nat → Option Nat → Int32 → Int32 → Int32 → Int32 → ax_Hp → ax_O} (hk10 : ∀ (x0 : Option Nat) (x2 : Option Nat) (x3 : Int32) (x4 : Int32) (x5 : Int32) (x6 : Int32) (h : ax_Hp), ax_W G p l e s mi args below meth c 7 (d + 1) h0 10 [(0, ax_A x0), (2, ax_A x2), (3, ax_I x3), (4, ax_I x4), (5, ax_I x5), (6, ax_I x6)] [] h (k10 x0 x2 x3 x4 x5 x6 h)) (x0 : Option Nat) (x2 : Option Nat) (x3 : Int32) (x4 : Int32) (x5 : Int32) (x6 : Int32) (h : ax_Hp) : ax_W G p l e s mi args below meth c 7 (d + 1) h0 10 [(0, ax_A x0), (2, ax_A x2), (3, ax_I x3), (4, ax_I x4), (5, ax_I x5), (6, ax_I x6)] [] h (Compatibility_readingBranch_bd10 call  k10 x0 x2 x3 x4 x5 x6 h) := by
  unfold Compatibility_readingBranch_bd10
  refine ax_iload B 5 d_Compatibility_readingBranch_10 rfl ?_
  refine ax_iconst (v := 4) B d_Compatibility_readingBranch_12 (by decide) ?_
  refine ax_icmp_ge B 54 d_Compatibility_readingBranch_13 (by decide) ?_ ?_
  · refine ax_iconst (v := (-1)) B d_Compatibility_readingBranch_54 (by decide) ?_
    exact ax_ireturn B d_Compatibility_readingBranch_55
  · refine ax_iload B 4 d_Compatibility_readingBranch_16 rfl ?_
    refine ax_iconst (v := (-1)) B d_Compatibility_readingBranch_18 (by decide) ?_
    refine ax_icmp_eq B 54 d_Compatibility_readingBranch_19 (by decide) ?_ ?_
    · refine ax_iconst (v := (-1)) B d_Compatibility_readingBranch_54 (by decide) ?_
      exact ax_ireturn B d_Compatibility_readingBranch_55
    · refine ax_aload_n B 0 d_Compatibility_readingBranch_22 rfl rfl ?_
      refine ax_iload B 4 d_Compatibility_readingBranch_23 rfl ?_
      refine ax_aload_n B 1 d_Compatibility_readingBranch_25 rfl rfl ?_
      refine ax_iload_n B 2 d_Compatibility_readingBranch_26 rfl rfl ?_
      refine ax_iload B 3 d_Compatibility_readingBranch_27 rfl ?_
      refine ax_iconst (v := 1) B d_Compatibility_readingBranch_29 (by decide) ?_
      refine ax_iadd B d_Compatibility_readingBranch_30 ?_
      refine ax_callSi (av := [ax_A x0, ax_I x5, ax_A x2, ax_I x3, ax_I (x4 + 1)]) (rest := []) B E hm_Compatibility_canReadType wd_491 lk_Compatibility_9 d_Compatibility_readingBranch_31 rfl (Nat.le_of_ble_eq_true rfl) (fun _ _ hh => hcall 72 _ _ _ _ hh) (fun v4 h3 => ?_)
      refine ax_if_eq B 40 d_Compatibility_readingBranch_34 (by decide) ?_ ?_
      · refine ax_aload_n B 0 d_Compatibility_readingBranch_40 rfl rfl ?_
        refine ax_iload B 4 d_Compatibility_readingBranch_41 rfl ?_
        refine ax_callVi (av := [ax_I x5]) (rest := []) B E hm_Schema_nextPart cl_Schema rfl wd_452 wd_453 lk_Compatibility_41 d_Compatibility_readingBranch_43 rfl (Nat.le_of_ble_eq_true rfl) (fun _ _ hh => hcall 63 _ _ _ _ hh) (fun v6 h5 => ?_)
        refine ax_istore (tv2 := [(5, ax_I v6), (0, ax_A x0), (2, ax_A x2), (3, ax_I x3), (4, ax_I x4), (6, ax_I x6)]) B d_Compatibility_readingBranch_46 (by decide) rfl ?_
        refine ax_iinc (v := x6 + 1) (tv2 := [(6, ax_I (x6 + 1)), (5, ax_I v6), (0, ax_A x0), (2, ax_A x2), (3, ax_I x3), (4, ax_I x4)]) B 5 d_Compatibility_readingBranch_48 rfl (congrArg (_ + ·) (by decide)) (by decide) rfl ?_
        refine ax_goto B 10 d_Compatibility_readingBranch_51 (by decide) ?_
        refine ax_sub (tv2 := [(0, ax_A x0), (2, ax_A x2), (3, ax_I x3), (4, ax_I x4), (5, ax_I v6), (6, ax_I (x6 + 1))]) [2, 3, 4, 5, 1, 0] rfl ?_
        exact hk10 x0 x2 x3 x4 v6 (x6 + 1) h5
      · refine ax_iload B 5 d_Compatibility_readingBranch_37 rfl ?_
        exact ax_ireturn B d_Compatibility_readingBranch_39
theorem Compatibility_readingBranch_lq10 {l : Launch} {G : ax_G} {d : Nat} {call : ax_Cf} (hcall : ax_Hc l G d call) {p : Program} {e : Env} {s : State} {mi : MethodId} {args : Array Value} {below : List Frame} {meth : Method} {c : Code} {h0 : ax_Hp} (B : ax_B G p s mi meth c "SchemaDesk$Compatibility" prog_2_method_5_code 7 (some (.int))) (E : c.exceptionTable.isEmpty = true) (Nm : meth.name = y_Compatibility_readingBranch.name)   : ∀ (n : Nat) (x0 : Option Nat) (x2 : Option Nat) (x3 : Int32) (x4 : Int32) (x5 : Int32) (x6 : Int32) (h : ax_Hp), ax_W G p l e s mi args below meth c 7 (d + 1) h0 10 [(0, ax_A x0), (2, ax_A x2), (3, ax_I x3), (4, ax_I x4), (5, ax_I x5), (6, ax_I x6)] [] h (Compatibility_readingBranch_lp10 call  n x0 x2 x3 x4 x5 x6 h)
  | 0, _, _, _, _, _, _, _ => ax_none
  | n + 1, x0, x2, x3, x4, x5, x6, h => Compatibility_readingBranch_lb10 hcall B E Nm   (Compatibility_readingBranch_lq10 hcall B E Nm   n) x0 x2 x3 x4 x5 x6 h
def Compatibility_readingBranch_b (call : ax_Cf) (x0 : Option Nat) (x1 : Int32) (x2 : Option Nat) (x3 : Int32) (x4 : Int32) (h : ax_Hp) : ax_O :=
  ax_on h x0 3 <| ax_ci (call 60 [ax_A x0, ax_I x1] h) fun v2 h1 =>
  Compatibility_readingBranch_lp10 call ax_fuel x0 x2 x3 x4 v2 0 h1
set_option maxHeartbeats 4000000 in
set_option maxRecDepth 20000 in
theorem Compatibility_readingBranch_t {l : Launch} {G : ax_G} {d : Nat} {call : ax_Cf} (hcall : ax_Hc l G d call) (x0 : Option Nat) (x1 : Int32) (x2 : Option Nat) (x3 : Int32) (x4 : Int32) (h : ax_Hp) {r : ax_Rs} {h' : ax_Hp} (ho : Compatibility_readingBranch_b call x0 x1 x2 x3 x4 h = some (r, h')) : ax_C l G (d + 1) y_Compatibility_readingBranch (.code y_Compatibility_readingBranch prog_2_method_5_code 7 (some (.int))) [ax_A x0, ax_I x1, ax_A x2, ax_I x3, ax_I x4] h r h' := by
  refine ax_enter (by decide) (Nat.le_of_ble_eq_true rfl) ho (fun p e s mi args below meth c B E Nm => ?_)
  have B : ax_B G p s mi meth c "SchemaDesk$Compatibility" prog_2_method_5_code 7 (some (.int)) := B
  show ax_W G p l e s mi args below meth c 7 (d + 1) h 0 [(0, ax_A x0), (1, ax_I x1), (2, ax_A x2), (3, ax_I x3), (4, ax_I x4)] [] h (Compatibility_readingBranch_b call x0 x1 x2 x3 x4 h)
  unfold Compatibility_readingBranch_b
  refine ax_aload_n B 0 d_Compatibility_readingBranch_0 rfl rfl ?_
  refine ax_iload_n B 1 d_Compatibility_readingBranch_1 rfl rfl ?_
  refine ax_callVi (av := [ax_I x1]) (rest := []) B E hm_Schema_firstPart cl_Schema rfl wd_439 wd_440 lk_Compatibility_38 d_Compatibility_readingBranch_2 rfl (Nat.le_of_ble_eq_true rfl) (fun _ _ hh => hcall 60 _ _ _ _ hh) (fun v2 h1 => ?_)
  refine ax_istore (tv2 := [(5, ax_I v2), (0, ax_A x0), (1, ax_I x1), (2, ax_A x2), (3, ax_I x3), (4, ax_I x4)]) B d_Compatibility_readingBranch_5 (by decide) rfl ?_
  refine ax_iconst (v := 0) B d_Compatibility_readingBranch_7 (by decide) ?_
  refine ax_istore (tv2 := [(6, ax_I 0), (5, ax_I v2), (0, ax_A x0), (1, ax_I x1), (2, ax_A x2), (3, ax_I x3), (4, ax_I x4)]) B d_Compatibility_readingBranch_8 (by decide) rfl ?_
  refine ax_sub (tv2 := [(0, ax_A x0), (2, ax_A x2), (3, ax_I x3), (4, ax_I x4), (5, ax_I v2), (6, ax_I 0)]) [2, 4, 5, 6, 1, 0] rfl ?_
  exact Compatibility_readingBranch_lq10 hcall B E Nm ax_fuel x0 x2 x3 x4 v2 0 h1

theorem d_Compatibility_canReadSymbols_0 : decode prog_2_method_7_code 0 = .ok (.aload_n 0, 1) := by decide +kernel
theorem d_Compatibility_canReadSymbols_1 : decode prog_2_method_7_code 1 = .ok (.iload_n 1, 1) := by decide +kernel
theorem d_Compatibility_canReadSymbols_2 : decode prog_2_method_7_code 2 = .ok (.invokevirtual 44, 3) := by decide +kernel
theorem d_Compatibility_canReadSymbols_5 : decode prog_2_method_7_code 5 = .ok (.iconst (-1), 1) := by decide +kernel
theorem d_Compatibility_canReadSymbols_6 : decode prog_2_method_7_code 6 = .ok (.if_icmp .eq 5, 3) := by decide +kernel
theorem d_Compatibility_canReadSymbols_9 : decode prog_2_method_7_code 9 = .ok (.iconst 1, 1) := by decide +kernel
theorem d_Compatibility_canReadSymbols_10 : decode prog_2_method_7_code 10 = .ok (.ireturn, 1) := by decide +kernel
theorem d_Compatibility_canReadSymbols_11 : decode prog_2_method_7_code 11 = .ok (.aload_n 2, 1) := by decide +kernel
theorem d_Compatibility_canReadSymbols_12 : decode prog_2_method_7_code 12 = .ok (.iload_n 3, 1) := by decide +kernel
theorem d_Compatibility_canReadSymbols_13 : decode prog_2_method_7_code 13 = .ok (.invokevirtual 47, 3) := by decide +kernel
theorem d_Compatibility_canReadSymbols_16 : decode prog_2_method_7_code 16 = .ok (.istore 4, 2) := by decide +kernel
theorem d_Compatibility_canReadSymbols_18 : decode prog_2_method_7_code 18 = .ok (.iconst 0, 1) := by decide +kernel
theorem d_Compatibility_canReadSymbols_19 : decode prog_2_method_7_code 19 = .ok (.istore 5, 2) := by decide +kernel
theorem d_Compatibility_canReadSymbols_21 : decode prog_2_method_7_code 21 = .ok (.iload 5, 2) := by decide +kernel
theorem d_Compatibility_canReadSymbols_23 : decode prog_2_method_7_code 23 = .ok (.iload 4, 2) := by decide +kernel
theorem d_Compatibility_canReadSymbols_25 : decode prog_2_method_7_code 25 = .ok (.if_icmp .ge 27, 3) := by decide +kernel
theorem d_Compatibility_canReadSymbols_28 : decode prog_2_method_7_code 28 = .ok (.aload_n 0, 1) := by decide +kernel
theorem d_Compatibility_canReadSymbols_29 : decode prog_2_method_7_code 29 = .ok (.iload_n 1, 1) := by decide +kernel
theorem d_Compatibility_canReadSymbols_30 : decode prog_2_method_7_code 30 = .ok (.aload_n 2, 1) := by decide +kernel
theorem d_Compatibility_canReadSymbols_31 : decode prog_2_method_7_code 31 = .ok (.iload_n 3, 1) := by decide +kernel
theorem d_Compatibility_canReadSymbols_32 : decode prog_2_method_7_code 32 = .ok (.iload 5, 2) := by decide +kernel
theorem d_Compatibility_canReadSymbols_34 : decode prog_2_method_7_code 34 = .ok (.invokevirtual 50, 3) := by decide +kernel
theorem d_Compatibility_canReadSymbols_37 : decode prog_2_method_7_code 37 = .ok (.invokevirtual 54, 3) := by decide +kernel
theorem d_Compatibility_canReadSymbols_40 : decode prog_2_method_7_code 40 = .ok (.iconst (-1), 1) := by decide +kernel
theorem d_Compatibility_canReadSymbols_41 : decode prog_2_method_7_code 41 = .ok (.if_icmp .ne 5, 3) := by decide +kernel
theorem d_Compatibility_canReadSymbols_44 : decode prog_2_method_7_code 44 = .ok (.iconst 0, 1) := by decide +kernel
theorem d_Compatibility_canReadSymbols_45 : decode prog_2_method_7_code 45 = .ok (.ireturn, 1) := by decide +kernel
theorem d_Compatibility_canReadSymbols_46 : decode prog_2_method_7_code 46 = .ok (.iinc 5 1, 3) := by decide +kernel
theorem d_Compatibility_canReadSymbols_49 : decode prog_2_method_7_code 49 = .ok (.goto (-28), 3) := by decide +kernel
theorem d_Compatibility_canReadSymbols_52 : decode prog_2_method_7_code 52 = .ok (.iconst 1, 1) := by decide +kernel
theorem d_Compatibility_canReadSymbols_53 : decode prog_2_method_7_code 53 = .ok (.ireturn, 1) := by decide +kernel
def Compatibility_canReadSymbols_bd21 (call : ax_Cf)  (k21 : Option Nat → Int32 → Option Nat → Int32 → Int32 → Int32 → ax_Hp → ax_O) (x0 : Option Nat) (x1 : Int32) (x2 : Option Nat) (x3 : Int32) (x4 : Int32) (x5 : Int32) (h : ax_Hp) : ax_O :=
  if x4 ≤ x5 then
    ax_rz 1 h
  else
    ax_on h x2 3 <| ax_ci (call 79 [ax_A x2, ax_I x3, ax_I x5] h) fun v6 h5 =>
    ax_on h5 x0 3 <| ax_ci (call 55 [ax_A x0, ax_I x1, ax_I v6] h5) fun v8 h7 =>
    if v8 = (-1) then
      ax_rz 0 h7
    else
      k21 x0 x1 x2 x3 x4 (x5 + 1) h7
def Compatibility_canReadSymbols_lp21 (call : ax_Cf)  : Nat → Option Nat → Int32 → Option Nat → Int32 → Int32 → Int32 → ax_Hp → ax_O
  | 0 => fun _ _ _ _ _ _ _ => none
  | n + 1 => Compatibility_canReadSymbols_bd21 call  (Compatibility_canReadSymbols_lp21 call  n)
set_option maxHeartbeats 4000000 in
set_option maxRecDepth 20000 in
theorem Compatibility_canReadSymbols_lb21 {l : Launch} {G : ax_G} {d : Nat} {call : ax_Cf} (hcall : ax_Hc l G d call) {p : Program} {e : Env} {s : State} {mi : MethodId} {args : Array Value} {below : List Frame} {meth : Method} {c : Code} {h0 : ax_Hp} (B : ax_B G p s mi meth c "SchemaDesk$Compatibility" prog_2_method_7_code 6 (some (.boolean))) (E : c.exceptionTable.isEmpty = true) (Nm : meth.name = y_Compatibility_canReadSymbols.name)   {k21 : Option Nat → Int32 → Option Nat → Int32 → Int32 → Int32 → ax_Hp → ax_O} (hk21 : ∀ (x0 : Option Nat) (x1 : Int32) (x2 : Option Nat) (x3 : Int32) (x4 : Int32) (x5 : Int32) (h : ax_Hp), ax_W G p l e s mi args below meth c 6 (d + 1) h0 21 [(0, ax_A x0), (1, ax_I x1), (2, ax_A x2), (3, ax_I x3), (4, ax_I x4), (5, ax_I x5)] [] h (k21 x0 x1 x2 x3 x4 x5 h)) (x0 : Option Nat) (x1 : Int32) (x2 : Option Nat) (x3 : Int32) (x4 : Int32) (x5 : Int32) (h : ax_Hp) : ax_W G p l e s mi args below meth c 6 (d + 1) h0 21 [(0, ax_A x0), (1, ax_I x1), (2, ax_A x2), (3, ax_I x3), (4, ax_I x4), (5, ax_I x5)] [] h (Compatibility_canReadSymbols_bd21 call  k21 x0 x1 x2 x3 x4 x5 h) := by
  unfold Compatibility_canReadSymbols_bd21
  refine ax_iload B 5 d_Compatibility_canReadSymbols_21 rfl ?_
  refine ax_iload B 4 d_Compatibility_canReadSymbols_23 rfl ?_
  refine ax_icmp_ge B 52 d_Compatibility_canReadSymbols_25 (by decide) ?_ ?_
  · refine ax_iconst (v := 1) B d_Compatibility_canReadSymbols_52 (by decide) ?_
    exact ax_zreturn B d_Compatibility_canReadSymbols_53
  · refine ax_aload_n B 0 d_Compatibility_canReadSymbols_28 rfl rfl ?_
    refine ax_iload_n B 1 d_Compatibility_canReadSymbols_29 rfl rfl ?_
    refine ax_aload_n B 2 d_Compatibility_canReadSymbols_30 rfl rfl ?_
    refine ax_iload_n B 3 d_Compatibility_canReadSymbols_31 rfl rfl ?_
    refine ax_iload B 5 d_Compatibility_canReadSymbols_32 rfl ?_
    refine ax_callVi (av := [ax_I x3, ax_I x5]) (rest := [ax_I x1, ax_A x0]) B E hm_Schema_symbol cl_Schema rfl wd_518 wd_519 lk_Compatibility_50 d_Compatibility_canReadSymbols_34 rfl (Nat.le_of_ble_eq_true rfl) (fun _ _ hh => hcall 79 _ _ _ _ hh) (fun v6 h5 => ?_)
    refine ax_callVi (av := [ax_I x1, ax_I v6]) (rest := []) B E hm_Schema_symbolNumber cl_Schema rfl wd_417 wd_418 lk_Compatibility_54 d_Compatibility_canReadSymbols_37 rfl (Nat.le_of_ble_eq_true rfl) (fun _ _ hh => hcall 55 _ _ _ _ hh) (fun v8 h7 => ?_)
    refine ax_iconst (v := (-1)) B d_Compatibility_canReadSymbols_40 (by decide) ?_
    refine ax_icmp_ne B 46 d_Compatibility_canReadSymbols_41 (by decide) ?_ ?_
    · refine ax_iinc (v := x5 + 1) (tv2 := [(5, ax_I (x5 + 1)), (0, ax_A x0), (1, ax_I x1), (2, ax_A x2), (3, ax_I x3), (4, ax_I x4)]) B 5 d_Compatibility_canReadSymbols_46 rfl (congrArg (_ + ·) (by decide)) (by decide) rfl ?_
      refine ax_goto B 21 d_Compatibility_canReadSymbols_49 (by decide) ?_
      refine ax_sub (tv2 := [(0, ax_A x0), (1, ax_I x1), (2, ax_A x2), (3, ax_I x3), (4, ax_I x4), (5, ax_I (x5 + 1))]) [1, 2, 3, 4, 5, 0] rfl ?_
      exact hk21 x0 x1 x2 x3 x4 (x5 + 1) h7
    · refine ax_iconst (v := 0) B d_Compatibility_canReadSymbols_44 (by decide) ?_
      exact ax_zreturn B d_Compatibility_canReadSymbols_45
theorem Compatibility_canReadSymbols_lq21 {l : Launch} {G : ax_G} {d : Nat} {call : ax_Cf} (hcall : ax_Hc l G d call) {p : Program} {e : Env} {s : State} {mi : MethodId} {args : Array Value} {below : List Frame} {meth : Method} {c : Code} {h0 : ax_Hp} (B : ax_B G p s mi meth c "SchemaDesk$Compatibility" prog_2_method_7_code 6 (some (.boolean))) (E : c.exceptionTable.isEmpty = true) (Nm : meth.name = y_Compatibility_canReadSymbols.name)   : ∀ (n : Nat) (x0 : Option Nat) (x1 : Int32) (x2 : Option Nat) (x3 : Int32) (x4 : Int32) (x5 : Int32) (h : ax_Hp), ax_W G p l e s mi args below meth c 6 (d + 1) h0 21 [(0, ax_A x0), (1, ax_I x1), (2, ax_A x2), (3, ax_I x3), (4, ax_I x4), (5, ax_I x5)] [] h (Compatibility_canReadSymbols_lp21 call  n x0 x1 x2 x3 x4 x5 h)
  | 0, _, _, _, _, _, _, _ => ax_none
  | n + 1, x0, x1, x2, x3, x4, x5, h => Compatibility_canReadSymbols_lb21 hcall B E Nm   (Compatibility_canReadSymbols_lq21 hcall B E Nm   n) x0 x1 x2 x3 x4 x5 h
def Compatibility_canReadSymbols_b (call : ax_Cf) (x0 : Option Nat) (x1 : Int32) (x2 : Option Nat) (x3 : Int32) (h : ax_Hp) : ax_O :=
  ax_on h x0 3 <| ax_ci (call 76 [ax_A x0, ax_I x1] h) fun v2 h1 =>
  if v2 = (-1) then
    ax_on h1 x2 3 <| ax_ci (call 78 [ax_A x2, ax_I x3] h1) fun v4 h3 =>
    Compatibility_canReadSymbols_lp21 call ax_fuel x0 x1 x2 x3 v4 0 h3
  else
    ax_rz 1 h1
set_option maxHeartbeats 4000000 in
set_option maxRecDepth 20000 in
theorem Compatibility_canReadSymbols_t {l : Launch} {G : ax_G} {d : Nat} {call : ax_Cf} (hcall : ax_Hc l G d call) (x0 : Option Nat) (x1 : Int32) (x2 : Option Nat) (x3 : Int32) (h : ax_Hp) {r : ax_Rs} {h' : ax_Hp} (ho : Compatibility_canReadSymbols_b call x0 x1 x2 x3 h = some (r, h')) : ax_C l G (d + 1) y_Compatibility_canReadSymbols (.code y_Compatibility_canReadSymbols prog_2_method_7_code 6 (some (.boolean))) [ax_A x0, ax_I x1, ax_A x2, ax_I x3] h r h' := by
  refine ax_enter (by decide) (Nat.le_of_ble_eq_true rfl) ho (fun p e s mi args below meth c B E Nm => ?_)
  have B : ax_B G p s mi meth c "SchemaDesk$Compatibility" prog_2_method_7_code 6 (some (.boolean)) := B
  show ax_W G p l e s mi args below meth c 6 (d + 1) h 0 [(0, ax_A x0), (1, ax_I x1), (2, ax_A x2), (3, ax_I x3)] [] h (Compatibility_canReadSymbols_b call x0 x1 x2 x3 h)
  unfold Compatibility_canReadSymbols_b
  refine ax_aload_n B 0 d_Compatibility_canReadSymbols_0 rfl rfl ?_
  refine ax_iload_n B 1 d_Compatibility_canReadSymbols_1 rfl rfl ?_
  refine ax_callVi (av := [ax_I x1]) (rest := []) B E hm_Schema_symbolDefault cl_Schema rfl wd_506 wd_507 lk_Compatibility_44 d_Compatibility_canReadSymbols_2 rfl (Nat.le_of_ble_eq_true rfl) (fun _ _ hh => hcall 76 _ _ _ _ hh) (fun v2 h1 => ?_)
  refine ax_iconst (v := (-1)) B d_Compatibility_canReadSymbols_5 (by decide) ?_
  refine ax_icmp_eq B 11 d_Compatibility_canReadSymbols_6 (by decide) ?_ ?_
  · refine ax_aload_n B 2 d_Compatibility_canReadSymbols_11 rfl rfl ?_
    refine ax_iload_n B 3 d_Compatibility_canReadSymbols_12 rfl rfl ?_
    refine ax_callVi (av := [ax_I x3]) (rest := []) B E hm_Schema_symbolCount cl_Schema rfl wd_514 wd_515 lk_Compatibility_47 d_Compatibility_canReadSymbols_13 rfl (Nat.le_of_ble_eq_true rfl) (fun _ _ hh => hcall 78 _ _ _ _ hh) (fun v4 h3 => ?_)
    refine ax_istore (tv2 := [(4, ax_I v4), (0, ax_A x0), (1, ax_I x1), (2, ax_A x2), (3, ax_I x3)]) B d_Compatibility_canReadSymbols_16 (by decide) rfl ?_
    refine ax_iconst (v := 0) B d_Compatibility_canReadSymbols_18 (by decide) ?_
    refine ax_istore (tv2 := [(5, ax_I 0), (4, ax_I v4), (0, ax_A x0), (1, ax_I x1), (2, ax_A x2), (3, ax_I x3)]) B d_Compatibility_canReadSymbols_19 (by decide) rfl ?_
    refine ax_sub (tv2 := [(0, ax_A x0), (1, ax_I x1), (2, ax_A x2), (3, ax_I x3), (4, ax_I v4), (5, ax_I 0)]) [2, 3, 4, 5, 1, 0] rfl ?_
    exact Compatibility_canReadSymbols_lq21 hcall B E Nm ax_fuel x0 x1 x2 x3 v4 0 h3
  · refine ax_iconst (v := 1) B d_Compatibility_canReadSymbols_9 (by decide) ?_
    exact ax_zreturn B d_Compatibility_canReadSymbols_10

theorem d_Compatibility_canReadFields_0 : decode prog_2_method_8_code 0 = .ok (.aload_n 0, 1) := by decide +kernel
theorem d_Compatibility_canReadFields_1 : decode prog_2_method_8_code 1 = .ok (.iload_n 1, 1) := by decide +kernel
theorem d_Compatibility_canReadFields_2 : decode prog_2_method_8_code 2 = .ok (.invokevirtual 38, 3) := by decide +kernel
theorem d_Compatibility_canReadFields_5 : decode prog_2_method_8_code 5 = .ok (.istore 5, 2) := by decide +kernel
theorem d_Compatibility_canReadFields_7 : decode prog_2_method_8_code 7 = .ok (.iconst 0, 1) := by decide +kernel
theorem d_Compatibility_canReadFields_8 : decode prog_2_method_8_code 8 = .ok (.istore 6, 2) := by decide +kernel
theorem d_Compatibility_canReadFields_10 : decode prog_2_method_8_code 10 = .ok (.iload 6, 2) := by decide +kernel
theorem d_Compatibility_canReadFields_12 : decode prog_2_method_8_code 12 = .ok (.bipush 6, 2) := by decide +kernel
theorem d_Compatibility_canReadFields_14 : decode prog_2_method_8_code 14 = .ok (.if_icmp .ge 90, 3) := by decide +kernel
theorem d_Compatibility_canReadFields_17 : decode prog_2_method_8_code 17 = .ok (.iload 5, 2) := by decide +kernel
theorem d_Compatibility_canReadFields_19 : decode prog_2_method_8_code 19 = .ok (.iconst (-1), 1) := by decide +kernel
theorem d_Compatibility_canReadFields_20 : decode prog_2_method_8_code 20 = .ok (.if_icmp .eq 84, 3) := by decide +kernel
theorem d_Compatibility_canReadFields_23 : decode prog_2_method_8_code 23 = .ok (.aload_n 2, 1) := by decide +kernel
theorem d_Compatibility_canReadFields_24 : decode prog_2_method_8_code 24 = .ok (.iload_n 3, 1) := by decide +kernel
theorem d_Compatibility_canReadFields_25 : decode prog_2_method_8_code 25 = .ok (.aload_n 0, 1) := by decide +kernel
theorem d_Compatibility_canReadFields_26 : decode prog_2_method_8_code 26 = .ok (.iload 5, 2) := by decide +kernel
theorem d_Compatibility_canReadFields_28 : decode prog_2_method_8_code 28 = .ok (.invokevirtual 57, 3) := by decide +kernel
theorem d_Compatibility_canReadFields_31 : decode prog_2_method_8_code 31 = .ok (.invokevirtual 60, 3) := by decide +kernel
theorem d_Compatibility_canReadFields_34 : decode prog_2_method_8_code 34 = .ok (.istore 7, 2) := by decide +kernel
theorem d_Compatibility_canReadFields_36 : decode prog_2_method_8_code 36 = .ok (.iload 7, 2) := by decide +kernel
theorem d_Compatibility_canReadFields_38 : decode prog_2_method_8_code 38 = .ok (.iconst (-1), 1) := by decide +kernel
theorem d_Compatibility_canReadFields_39 : decode prog_2_method_8_code 39 = .ok (.if_icmp .ne 21, 3) := by decide +kernel
theorem d_Compatibility_canReadFields_42 : decode prog_2_method_8_code 42 = .ok (.aload_n 0, 1) := by decide +kernel
theorem d_Compatibility_canReadFields_43 : decode prog_2_method_8_code 43 = .ok (.iload 5, 2) := by decide +kernel
theorem d_Compatibility_canReadFields_45 : decode prog_2_method_8_code 45 = .ok (.invokevirtual 63, 3) := by decide +kernel
theorem d_Compatibility_canReadFields_48 : decode prog_2_method_8_code 48 = .ok (.iconst (-1), 1) := by decide +kernel
theorem d_Compatibility_canReadFields_49 : decode prog_2_method_8_code 49 = .ok (.if_icmp .eq 7, 3) := by decide +kernel
theorem d_Compatibility_canReadFields_52 : decode prog_2_method_8_code 52 = .ok (.iconst 1, 1) := by decide +kernel
theorem d_Compatibility_canReadFields_53 : decode prog_2_method_8_code 53 = .ok (.goto 28, 3) := by decide +kernel
theorem d_Compatibility_canReadFields_56 : decode prog_2_method_8_code 56 = .ok (.iconst 0, 1) := by decide +kernel
theorem d_Compatibility_canReadFields_57 : decode prog_2_method_8_code 57 = .ok (.goto 24, 3) := by decide +kernel
theorem d_Compatibility_canReadFields_60 : decode prog_2_method_8_code 60 = .ok (.aload_n 0, 1) := by decide +kernel
theorem d_Compatibility_canReadFields_61 : decode prog_2_method_8_code 61 = .ok (.aload_n 0, 1) := by decide +kernel
theorem d_Compatibility_canReadFields_62 : decode prog_2_method_8_code 62 = .ok (.iload 5, 2) := by decide +kernel
theorem d_Compatibility_canReadFields_64 : decode prog_2_method_8_code 64 = .ok (.invokevirtual 66, 3) := by decide +kernel
theorem d_Compatibility_canReadFields_67 : decode prog_2_method_8_code 67 = .ok (.aload_n 2, 1) := by decide +kernel
theorem d_Compatibility_canReadFields_68 : decode prog_2_method_8_code 68 = .ok (.aload_n 2, 1) := by decide +kernel
theorem d_Compatibility_canReadFields_69 : decode prog_2_method_8_code 69 = .ok (.iload 7, 2) := by decide +kernel
theorem d_Compatibility_canReadFields_71 : decode prog_2_method_8_code 71 = .ok (.invokevirtual 66, 3) := by decide +kernel
theorem d_Compatibility_canReadFields_74 : decode prog_2_method_8_code 74 = .ok (.iload 4, 2) := by decide +kernel
theorem d_Compatibility_canReadFields_76 : decode prog_2_method_8_code 76 = .ok (.iconst 1, 1) := by decide +kernel
theorem d_Compatibility_canReadFields_77 : decode prog_2_method_8_code 77 = .ok (.iadd, 1) := by decide +kernel
theorem d_Compatibility_canReadFields_78 : decode prog_2_method_8_code 78 = .ok (.invokestatic 9, 3) := by decide +kernel
theorem d_Compatibility_canReadFields_81 : decode prog_2_method_8_code 81 = .ok (.istore 8, 2) := by decide +kernel
theorem d_Compatibility_canReadFields_83 : decode prog_2_method_8_code 83 = .ok (.iload 8, 2) := by decide +kernel
theorem d_Compatibility_canReadFields_85 : decode prog_2_method_8_code 85 = .ok (.ifCond .ne 5, 3) := by decide +kernel
theorem d_Compatibility_canReadFields_88 : decode prog_2_method_8_code 88 = .ok (.iconst 0, 1) := by decide +kernel
theorem d_Compatibility_canReadFields_89 : decode prog_2_method_8_code 89 = .ok (.ireturn, 1) := by decide +kernel
theorem d_Compatibility_canReadFields_90 : decode prog_2_method_8_code 90 = .ok (.aload_n 0, 1) := by decide +kernel
theorem d_Compatibility_canReadFields_91 : decode prog_2_method_8_code 91 = .ok (.iload 5, 2) := by decide +kernel
theorem d_Compatibility_canReadFields_93 : decode prog_2_method_8_code 93 = .ok (.invokevirtual 41, 3) := by decide +kernel
theorem d_Compatibility_canReadFields_96 : decode prog_2_method_8_code 96 = .ok (.istore 5, 2) := by decide +kernel
theorem d_Compatibility_canReadFields_98 : decode prog_2_method_8_code 98 = .ok (.iinc 6 1, 3) := by decide +kernel
theorem d_Compatibility_canReadFields_101 : decode prog_2_method_8_code 101 = .ok (.goto (-91), 3) := by decide +kernel
theorem d_Compatibility_canReadFields_104 : decode prog_2_method_8_code 104 = .ok (.iconst 1, 1) := by decide +kernel
theorem d_Compatibility_canReadFields_105 : decode prog_2_method_8_code 105 = .ok (.ireturn, 1) := by decide +kernel
def Compatibility_canReadFields_bd10 (call : ax_Cf)  (k10 : Option Nat → Option Nat → Int32 → Int32 → Int32 → Int32 → ax_Hp → ax_O) (x0 : Option Nat) (x2 : Option Nat) (x3 : Int32) (x4 : Int32) (x5 : Int32) (x6 : Int32) (h : ax_Hp) : ax_O :=
  if 6 ≤ x6 then
    ax_rz 1 h
  else
    if x5 = (-1) then
      ax_rz 1 h
    else
      ax_on h x0 3 <| ax_ci (call 81 [ax_A x0, ax_I x5] h) fun v4 h3 =>
      ax_on h3 x2 3 <| ax_ci (call 82 [ax_A x2, ax_I x3, ax_I v4] h3) fun v6 h5 =>
      if v6 = (-1) then
        ax_on h5 x0 3 <| ax_ci (call 83 [ax_A x0, ax_I x5] h5) fun v16 h15 =>
        if v16 = (-1) then
          ax_rz 0 h15
        else
          ax_on h15 x0 3 <| ax_ci (call 63 [ax_A x0, ax_I x5] h15) fun v18 h17 =>
          k10 x0 x2 x3 x4 v18 (x6 + 1) h17
      else
        ax_on h5 x0 3 <| ax_ci (call 65 [ax_A x0, ax_I x5] h5) fun v8 h7 =>
        ax_on h7 x2 3 <| ax_ci (call 65 [ax_A x2, ax_I v6] h7) fun v10 h9 =>
        ax_ci (call 72 [ax_A x0, ax_I v8, ax_A x2, ax_I v10, ax_I (x4 + 1)] h9) fun v12 h11 =>
        if v12 = 0 then
          ax_rz 0 h11
        else
          ax_on h11 x0 3 <| ax_ci (call 63 [ax_A x0, ax_I x5] h11) fun v14 h13 =>
          k10 x0 x2 x3 x4 v14 (x6 + 1) h13
def Compatibility_canReadFields_lp10 (call : ax_Cf)  : Nat → Option Nat → Option Nat → Int32 → Int32 → Int32 → Int32 → ax_Hp → ax_O
  | 0 => fun _ _ _ _ _ _ _ => none
  | n + 1 => Compatibility_canReadFields_bd10 call  (Compatibility_canReadFields_lp10 call  n)
set_option maxHeartbeats 4000000 in
set_option maxRecDepth 20000 in
theorem Compatibility_canReadFields_lb10 {l : Launch} {G : ax_G} {d : Nat} {call : ax_Cf} (hcall : ax_Hc l G d call) {p : Program} {e : Env} {s : State} {mi : MethodId} {args : Array Value} {below : List Frame} {meth : Method} {c : Code} {h0 : ax_Hp} (B : ax_B G p s mi meth c "SchemaDesk$Compatibility" prog_2_method_8_code 9 (some (.boolean))) (E : c.exceptionTable.isEmpty = true) (Nm : meth.name = y_Compatibility_canReadFields.name)   {k10 : Option Nat → Option Nat → Int32 → Int32 → Int32 → Int32 → ax_Hp → ax_O} (hk10 : ∀ (x0 : Option Nat) (x2 : Option Nat) (x3 : Int32) (x4 : Int32) (x5 : Int32) (x6 : Int32) (h : ax_Hp), ax_W G p l e s mi args below meth c 9 (d + 1) h0 10 [(0, ax_A x0), (2, ax_A x2), (3, ax_I x3), (4, ax_I x4), (5, ax_I x5), (6, ax_I x6)] [] h (k10 x0 x2 x3 x4 x5 x6 h)) (x0 : Option Nat) (x2 : Option Nat) (x3 : Int32) (x4 : Int32) (x5 : Int32) (x6 : Int32) (h : ax_Hp) : ax_W G p l e s mi args below meth c 9 (d + 1) h0 10 [(0, ax_A x0), (2, ax_A x2), (3, ax_I x3), (4, ax_I x4), (5, ax_I x5), (6, ax_I x6)] [] h (Compatibility_canReadFields_bd10 call  k10 x0 x2 x3 x4 x5 x6 h) := by
  unfold Compatibility_canReadFields_bd10
  refine ax_iload B 5 d_Compatibility_canReadFields_10 rfl ?_
  refine ax_bipush (v := 6) B d_Compatibility_canReadFields_12 (by decide) ?_
  refine ax_icmp_ge B 104 d_Compatibility_canReadFields_14 (by decide) ?_ ?_
  · refine ax_iconst (v := 1) B d_Compatibility_canReadFields_104 (by decide) ?_
    exact ax_zreturn B d_Compatibility_canReadFields_105
  · refine ax_iload B 4 d_Compatibility_canReadFields_17 rfl ?_
    refine ax_iconst (v := (-1)) B d_Compatibility_canReadFields_19 (by decide) ?_
    refine ax_icmp_eq B 104 d_Compatibility_canReadFields_20 (by decide) ?_ ?_
    · refine ax_iconst (v := 1) B d_Compatibility_canReadFields_104 (by decide) ?_
      exact ax_zreturn B d_Compatibility_canReadFields_105
    · refine ax_aload_n B 1 d_Compatibility_canReadFields_23 rfl rfl ?_
      refine ax_iload_n B 2 d_Compatibility_canReadFields_24 rfl rfl ?_
      refine ax_aload_n B 0 d_Compatibility_canReadFields_25 rfl rfl ?_
      refine ax_iload B 4 d_Compatibility_canReadFields_26 rfl ?_
      refine ax_callVi (av := [ax_I x5]) (rest := [ax_I x3, ax_A x2]) B E hm_Schema_at cl_Schema rfl wd_527 wd_528 lk_Compatibility_57 d_Compatibility_canReadFields_28 rfl (Nat.le_of_ble_eq_true rfl) (fun _ _ hh => hcall 81 _ _ _ _ hh) (fun v4 h3 => ?_)
      refine ax_callVi (av := [ax_I x3, ax_I v4]) (rest := []) B E hm_Schema_fieldNamed cl_Schema rfl wd_531 wd_532 lk_Compatibility_60 d_Compatibility_canReadFields_31 rfl (Nat.le_of_ble_eq_true rfl) (fun _ _ hh => hcall 82 _ _ _ _ hh) (fun v6 h5 => ?_)
      refine ax_istore (tv2 := [(7, ax_I v6), (0, ax_A x0), (2, ax_A x2), (3, ax_I x3), (4, ax_I x4), (5, ax_I x5), (6, ax_I x6)]) B d_Compatibility_canReadFields_34 (by decide) rfl ?_
      refine ax_iload B 0 d_Compatibility_canReadFields_36 rfl ?_
      refine ax_iconst (v := (-1)) B d_Compatibility_canReadFields_38 (by decide) ?_
      refine ax_icmp_ne B 60 d_Compatibility_canReadFields_39 (by decide) ?_ ?_
      · refine ax_aload_n B 1 d_Compatibility_canReadFields_60 rfl rfl ?_
        refine ax_aload_n B 1 d_Compatibility_canReadFields_61 rfl rfl ?_
        refine ax_iload B 5 d_Compatibility_canReadFields_62 rfl ?_
        refine ax_callVi (av := [ax_I x5]) (rest := [ax_A x0]) B E hm_Schema_fieldType cl_Schema rfl wd_460 wd_461 lk_Compatibility_66 d_Compatibility_canReadFields_64 rfl (Nat.le_of_ble_eq_true rfl) (fun _ _ hh => hcall 65 _ _ _ _ hh) (fun v8 h7 => ?_)
        refine ax_aload_n B 2 d_Compatibility_canReadFields_67 rfl rfl ?_
        refine ax_aload_n B 2 d_Compatibility_canReadFields_68 rfl rfl ?_
        refine ax_iload B 0 d_Compatibility_canReadFields_69 rfl ?_
        refine ax_callVi (av := [ax_I v6]) (rest := [ax_A x2, ax_I v8, ax_A x0]) B E hm_Schema_fieldType cl_Schema rfl wd_460 wd_461 lk_Compatibility_66 d_Compatibility_canReadFields_71 rfl (Nat.le_of_ble_eq_true rfl) (fun _ _ hh => hcall 65 _ _ _ _ hh) (fun v10 h9 => ?_)
        refine ax_iload B 4 d_Compatibility_canReadFields_74 rfl ?_
        refine ax_iconst (v := 1) B d_Compatibility_canReadFields_76 (by decide) ?_
        refine ax_iadd B d_Compatibility_canReadFields_77 ?_
        refine ax_callSi (av := [ax_A x0, ax_I v8, ax_A x2, ax_I v10, ax_I (x4 + 1)]) (rest := []) B E hm_Compatibility_canReadType wd_491 lk_Compatibility_9 d_Compatibility_canReadFields_78 rfl (Nat.le_of_ble_eq_true rfl) (fun _ _ hh => hcall 72 _ _ _ _ hh) (fun v12 h11 => ?_)
        refine ax_istore (tv2 := [(8, ax_I v12), (7, ax_I v6), (0, ax_A x0), (2, ax_A x2), (3, ax_I x3), (4, ax_I x4), (5, ax_I x5), (6, ax_I x6)]) B d_Compatibility_canReadFields_81 (by decide) rfl ?_
        refine ax_iload B 0 d_Compatibility_canReadFields_83 rfl ?_
        refine ax_if_ne B 90 d_Compatibility_canReadFields_85 (by decide) ?_ ?_
        · refine ax_aload_n B 2 d_Compatibility_canReadFields_90 rfl rfl ?_
          refine ax_iload B 6 d_Compatibility_canReadFields_91 rfl ?_
          refine ax_callVi (av := [ax_I x5]) (rest := []) B E hm_Schema_nextPart cl_Schema rfl wd_452 wd_453 lk_Compatibility_41 d_Compatibility_canReadFields_93 rfl (Nat.le_of_ble_eq_true rfl) (fun _ _ hh => hcall 63 _ _ _ _ hh) (fun v14 h13 => ?_)
          refine ax_istore (tv2 := [(5, ax_I v14), (8, ax_I v12), (7, ax_I v6), (0, ax_A x0), (2, ax_A x2), (3, ax_I x3), (4, ax_I x4), (6, ax_I x6)]) B d_Compatibility_canReadFields_96 (by decide) rfl ?_
          refine ax_iinc (v := x6 + 1) (tv2 := [(6, ax_I (x6 + 1)), (5, ax_I v14), (8, ax_I v12), (7, ax_I v6), (0, ax_A x0), (2, ax_A x2), (3, ax_I x3), (4, ax_I x4)]) B 7 d_Compatibility_canReadFields_98 rfl (congrArg (_ + ·) (by decide)) (by decide) rfl ?_
          refine ax_goto B 10 d_Compatibility_canReadFields_101 (by decide) ?_
          refine ax_sub (tv2 := [(0, ax_A x0), (2, ax_A x2), (3, ax_I x3), (4, ax_I x4), (5, ax_I v14), (6, ax_I (x6 + 1))]) [4, 5, 6, 7, 1, 0] rfl ?_
          exact hk10 x0 x2 x3 x4 v14 (x6 + 1) h13
        · refine ax_iconst (v := 0) B d_Compatibility_canReadFields_88 (by decide) ?_
          exact ax_zreturn B d_Compatibility_canReadFields_89
      · refine ax_aload_n B 1 d_Compatibility_canReadFields_42 rfl rfl ?_
        refine ax_iload B 5 d_Compatibility_canReadFields_43 rfl ?_
        refine ax_callVi (av := [ax_I x5]) (rest := []) B E hm_Schema_fieldDefault cl_Schema rfl wd_535 wd_536 lk_Compatibility_63 d_Compatibility_canReadFields_45 rfl (Nat.le_of_ble_eq_true rfl) (fun _ _ hh => hcall 83 _ _ _ _ hh) (fun v16 h15 => ?_)
        refine ax_iconst (v := (-1)) B d_Compatibility_canReadFields_48 (by decide) ?_
        refine ax_icmp_eq B 56 d_Compatibility_canReadFields_49 (by decide) ?_ ?_
        · refine ax_iconst (v := 0) B d_Compatibility_canReadFields_56 (by decide) ?_
          refine ax_goto B 81 d_Compatibility_canReadFields_57 (by decide) ?_
          refine ax_istore (tv2 := [(8, ax_I 0), (7, ax_I v6), (0, ax_A x0), (2, ax_A x2), (3, ax_I x3), (4, ax_I x4), (5, ax_I x5), (6, ax_I x6)]) B d_Compatibility_canReadFields_81 (by decide) rfl ?_
          refine ax_iload B 0 d_Compatibility_canReadFields_83 rfl ?_
          refine ax_if_ne_F B 90 d_Compatibility_canReadFields_85 (by decide) (by decide) ?_
          refine ax_iconst (v := 0) B d_Compatibility_canReadFields_88 (by decide) ?_
          exact ax_zreturn B d_Compatibility_canReadFields_89
        · refine ax_iconst (v := 1) B d_Compatibility_canReadFields_52 (by decide) ?_
          refine ax_goto B 81 d_Compatibility_canReadFields_53 (by decide) ?_
          refine ax_istore (tv2 := [(8, ax_I 1), (7, ax_I v6), (0, ax_A x0), (2, ax_A x2), (3, ax_I x3), (4, ax_I x4), (5, ax_I x5), (6, ax_I x6)]) B d_Compatibility_canReadFields_81 (by decide) rfl ?_
          refine ax_iload B 0 d_Compatibility_canReadFields_83 rfl ?_
          refine ax_if_ne_T B 90 d_Compatibility_canReadFields_85 (by decide) (by decide) ?_
          refine ax_aload_n B 2 d_Compatibility_canReadFields_90 rfl rfl ?_
          refine ax_iload B 6 d_Compatibility_canReadFields_91 rfl ?_
          refine ax_callVi (av := [ax_I x5]) (rest := []) B E hm_Schema_nextPart cl_Schema rfl wd_452 wd_453 lk_Compatibility_41 d_Compatibility_canReadFields_93 rfl (Nat.le_of_ble_eq_true rfl) (fun _ _ hh => hcall 63 _ _ _ _ hh) (fun v18 h17 => ?_)
          refine ax_istore (tv2 := [(5, ax_I v18), (8, ax_I 1), (7, ax_I v6), (0, ax_A x0), (2, ax_A x2), (3, ax_I x3), (4, ax_I x4), (6, ax_I x6)]) B d_Compatibility_canReadFields_96 (by decide) rfl ?_
          refine ax_iinc (v := x6 + 1) (tv2 := [(6, ax_I (x6 + 1)), (5, ax_I v18), (8, ax_I 1), (7, ax_I v6), (0, ax_A x0), (2, ax_A x2), (3, ax_I x3), (4, ax_I x4)]) B 7 d_Compatibility_canReadFields_98 rfl (congrArg (_ + ·) (by decide)) (by decide) rfl ?_
          refine ax_goto B 10 d_Compatibility_canReadFields_101 (by decide) ?_
          refine ax_sub (tv2 := [(0, ax_A x0), (2, ax_A x2), (3, ax_I x3), (4, ax_I x4), (5, ax_I v18), (6, ax_I (x6 + 1))]) [4, 5, 6, 7, 1, 0] rfl ?_
          exact hk10 x0 x2 x3 x4 v18 (x6 + 1) h17
theorem Compatibility_canReadFields_lq10 {l : Launch} {G : ax_G} {d : Nat} {call : ax_Cf} (hcall : ax_Hc l G d call) {p : Program} {e : Env} {s : State} {mi : MethodId} {args : Array Value} {below : List Frame} {meth : Method} {c : Code} {h0 : ax_Hp} (B : ax_B G p s mi meth c "SchemaDesk$Compatibility" prog_2_method_8_code 9 (some (.boolean))) (E : c.exceptionTable.isEmpty = true) (Nm : meth.name = y_Compatibility_canReadFields.name)   : ∀ (n : Nat) (x0 : Option Nat) (x2 : Option Nat) (x3 : Int32) (x4 : Int32) (x5 : Int32) (x6 : Int32) (h : ax_Hp), ax_W G p l e s mi args below meth c 9 (d + 1) h0 10 [(0, ax_A x0), (2, ax_A x2), (3, ax_I x3), (4, ax_I x4), (5, ax_I x5), (6, ax_I x6)] [] h (Compatibility_canReadFields_lp10 call  n x0 x2 x3 x4 x5 x6 h)
  | 0, _, _, _, _, _, _, _ => ax_none
  | n + 1, x0, x2, x3, x4, x5, x6, h => Compatibility_canReadFields_lb10 hcall B E Nm   (Compatibility_canReadFields_lq10 hcall B E Nm   n) x0 x2 x3 x4 x5 x6 h
def Compatibility_canReadFields_b (call : ax_Cf) (x0 : Option Nat) (x1 : Int32) (x2 : Option Nat) (x3 : Int32) (x4 : Int32) (h : ax_Hp) : ax_O :=
  ax_on h x0 3 <| ax_ci (call 60 [ax_A x0, ax_I x1] h) fun v2 h1 =>
  Compatibility_canReadFields_lp10 call ax_fuel x0 x2 x3 x4 v2 0 h1
set_option maxHeartbeats 4000000 in
set_option maxRecDepth 20000 in
theorem Compatibility_canReadFields_t {l : Launch} {G : ax_G} {d : Nat} {call : ax_Cf} (hcall : ax_Hc l G d call) (x0 : Option Nat) (x1 : Int32) (x2 : Option Nat) (x3 : Int32) (x4 : Int32) (h : ax_Hp) {r : ax_Rs} {h' : ax_Hp} (ho : Compatibility_canReadFields_b call x0 x1 x2 x3 x4 h = some (r, h')) : ax_C l G (d + 1) y_Compatibility_canReadFields (.code y_Compatibility_canReadFields prog_2_method_8_code 9 (some (.boolean))) [ax_A x0, ax_I x1, ax_A x2, ax_I x3, ax_I x4] h r h' := by
  refine ax_enter (by decide) (Nat.le_of_ble_eq_true rfl) ho (fun p e s mi args below meth c B E Nm => ?_)
  have B : ax_B G p s mi meth c "SchemaDesk$Compatibility" prog_2_method_8_code 9 (some (.boolean)) := B
  show ax_W G p l e s mi args below meth c 9 (d + 1) h 0 [(0, ax_A x0), (1, ax_I x1), (2, ax_A x2), (3, ax_I x3), (4, ax_I x4)] [] h (Compatibility_canReadFields_b call x0 x1 x2 x3 x4 h)
  unfold Compatibility_canReadFields_b
  refine ax_aload_n B 0 d_Compatibility_canReadFields_0 rfl rfl ?_
  refine ax_iload_n B 1 d_Compatibility_canReadFields_1 rfl rfl ?_
  refine ax_callVi (av := [ax_I x1]) (rest := []) B E hm_Schema_firstPart cl_Schema rfl wd_439 wd_440 lk_Compatibility_38 d_Compatibility_canReadFields_2 rfl (Nat.le_of_ble_eq_true rfl) (fun _ _ hh => hcall 60 _ _ _ _ hh) (fun v2 h1 => ?_)
  refine ax_istore (tv2 := [(5, ax_I v2), (0, ax_A x0), (1, ax_I x1), (2, ax_A x2), (3, ax_I x3), (4, ax_I x4)]) B d_Compatibility_canReadFields_5 (by decide) rfl ?_
  refine ax_iconst (v := 0) B d_Compatibility_canReadFields_7 (by decide) ?_
  refine ax_istore (tv2 := [(6, ax_I 0), (5, ax_I v2), (0, ax_A x0), (1, ax_I x1), (2, ax_A x2), (3, ax_I x3), (4, ax_I x4)]) B d_Compatibility_canReadFields_8 (by decide) rfl ?_
  refine ax_sub (tv2 := [(0, ax_A x0), (2, ax_A x2), (3, ax_I x3), (4, ax_I x4), (5, ax_I v2), (6, ax_I 0)]) [2, 4, 5, 6, 1, 0] rfl ?_
  exact Compatibility_canReadFields_lq10 hcall B E Nm ax_fuel x0 x2 x3 x4 v2 0 h1

theorem d_Compatibility_firstReadingBranch_0 : decode prog_2_method_3_code 0 = .ok (.aload_n 0, 1) := by decide +kernel
theorem d_Compatibility_firstReadingBranch_1 : decode prog_2_method_3_code 1 = .ok (.iload_n 1, 1) := by decide +kernel
theorem d_Compatibility_firstReadingBranch_2 : decode prog_2_method_3_code 2 = .ok (.aload_n 2, 1) := by decide +kernel
theorem d_Compatibility_firstReadingBranch_3 : decode prog_2_method_3_code 3 = .ok (.iload_n 3, 1) := by decide +kernel
theorem d_Compatibility_firstReadingBranch_4 : decode prog_2_method_3_code 4 = .ok (.iconst 0, 1) := by decide +kernel
theorem d_Compatibility_firstReadingBranch_5 : decode prog_2_method_3_code 5 = .ok (.invokestatic 15, 3) := by decide +kernel
theorem d_Compatibility_firstReadingBranch_8 : decode prog_2_method_3_code 8 = .ok (.ireturn, 1) := by decide +kernel
def Compatibility_firstReadingBranch_b (call : ax_Cf) (x0 : Option Nat) (x1 : Int32) (x2 : Option Nat) (x3 : Int32) (h : ax_Hp) : ax_O :=
  ax_ci (call 74 [ax_A x0, ax_I x1, ax_A x2, ax_I x3, ax_I 0] h) fun v2 h1 =>
  ax_ri v2 h1
set_option maxHeartbeats 4000000 in
set_option maxRecDepth 20000 in
theorem Compatibility_firstReadingBranch_t {l : Launch} {G : ax_G} {d : Nat} {call : ax_Cf} (hcall : ax_Hc l G d call) (x0 : Option Nat) (x1 : Int32) (x2 : Option Nat) (x3 : Int32) (h : ax_Hp) {r : ax_Rs} {h' : ax_Hp} (ho : Compatibility_firstReadingBranch_b call x0 x1 x2 x3 h = some (r, h')) : ax_C l G (d + 1) y_Compatibility_firstReadingBranch (.code y_Compatibility_firstReadingBranch prog_2_method_3_code 4 (some (.int))) [ax_A x0, ax_I x1, ax_A x2, ax_I x3] h r h' := by
  refine ax_enter (by decide) (Nat.le_of_ble_eq_true rfl) ho (fun p e s mi args below meth c B E Nm => ?_)
  have B : ax_B G p s mi meth c "SchemaDesk$Compatibility" prog_2_method_3_code 4 (some (.int)) := B
  show ax_W G p l e s mi args below meth c 4 (d + 1) h 0 [(0, ax_A x0), (1, ax_I x1), (2, ax_A x2), (3, ax_I x3)] [] h (Compatibility_firstReadingBranch_b call x0 x1 x2 x3 h)
  unfold Compatibility_firstReadingBranch_b
  refine ax_aload_n B 0 d_Compatibility_firstReadingBranch_0 rfl rfl ?_
  refine ax_iload_n B 1 d_Compatibility_firstReadingBranch_1 rfl rfl ?_
  refine ax_aload_n B 2 d_Compatibility_firstReadingBranch_2 rfl rfl ?_
  refine ax_iload_n B 3 d_Compatibility_firstReadingBranch_3 rfl rfl ?_
  refine ax_iconst (v := 0) B d_Compatibility_firstReadingBranch_4 (by decide) ?_
  refine ax_callSi (av := [ax_A x0, ax_I x1, ax_A x2, ax_I x3, ax_I 0]) (rest := []) B E hm_Compatibility_readingBranch wd_500 lk_Compatibility_15 d_Compatibility_firstReadingBranch_5 rfl (Nat.le_of_ble_eq_true rfl) (fun _ _ hh => hcall 74 _ _ _ _ hh) (fun v2 h1 => ?_)
  exact ax_ireturn B d_Compatibility_firstReadingBranch_8
