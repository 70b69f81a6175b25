theorem d_Arrays_fill_0 : decode prog_22_method_103_code 0 = .ok (.iconst 0, 1) := by decide +kernel
theorem d_Arrays_fill_1 : decode prog_22_method_103_code 1 = .ok (.istore_n 2, 1) := by decide +kernel
theorem d_Arrays_fill_2 : decode prog_22_method_103_code 2 = .ok (.aload_n 0, 1) := by decide +kernel
theorem d_Arrays_fill_3 : decode prog_22_method_103_code 3 = .ok (.arraylength, 1) := by decide +kernel
theorem d_Arrays_fill_4 : decode prog_22_method_103_code 4 = .ok (.istore_n 3, 1) := by decide +kernel
theorem d_Arrays_fill_5 : decode prog_22_method_103_code 5 = .ok (.iload_n 2, 1) := by decide +kernel
theorem d_Arrays_fill_6 : decode prog_22_method_103_code 6 = .ok (.iload_n 3, 1) := by decide +kernel
theorem d_Arrays_fill_7 : decode prog_22_method_103_code 7 = .ok (.if_icmp .ge 13, 3) := by decide +kernel
theorem d_Arrays_fill_10 : decode prog_22_method_103_code 10 = .ok (.aload_n 0, 1) := by decide +kernel
theorem d_Arrays_fill_11 : decode prog_22_method_103_code 11 = .ok (.iload_n 2, 1) := by decide +kernel
theorem d_Arrays_fill_12 : decode prog_22_method_103_code 12 = .ok (.iload_n 1, 1) := by decide +kernel
theorem d_Arrays_fill_13 : decode prog_22_method_103_code 13 = .ok (.iastore, 1) := by decide +kernel
theorem d_Arrays_fill_14 : decode prog_22_method_103_code 14 = .ok (.iinc 2 1, 3) := by decide +kernel
theorem d_Arrays_fill_17 : decode prog_22_method_103_code 17 = .ok (.goto (-12), 3) := by decide +kernel
theorem d_Arrays_fill_20 : decode prog_22_method_103_code 20 = .ok (.return_, 1) := by decide +kernel
def Arrays_fill_bd5 (call : ax_Cf)  (k5 : Option Nat → Int32 → Int32 → Int32 → ax_Hp → ax_O) (x0 : Option Nat) (x1 : Int32) (x2 : Int32) (x3 : Int32) (h : ax_Hp) : ax_O :=
  if x3 ≤ x2 then
    ax_rv h
  else
    (ax_st h x0 1 x2 (ax_I x1)).bind fun h2 =>
    k5 x0 x1 (x2 + 1) x3 h2
def Arrays_fill_lp5 (call : ax_Cf)  : Nat → Option Nat → Int32 → Int32 → Int32 → ax_Hp → ax_O
  | 0 => fun _ _ _ _ _ => none
  | n + 1 => Arrays_fill_bd5 call  (Arrays_fill_lp5 call  n)
set_option maxHeartbeats 4000000 in
set_option maxRecDepth 20000 in
theorem Arrays_fill_lb5 {l : Launch} {G : ax_G} {d : Nat} {call : ax_Cf} (hcall : ax_Hc l G d call) {p : Program} {e : Env} {s : State} {mi : MethodId} {args : Array Value} {below : List Frame} {meth : Method} {c : Code} {h0 : ax_Hp} (B : ax_B G p s mi meth c "java/util/Arrays" prog_22_method_103_code 4 none) (E : c.exceptionTable.isEmpty = true) (Nm : meth.name = y_Arrays_fill.name)   {k5 : Option Nat → Int32 → Int32 → Int32 → ax_Hp → ax_O} (hk5 : ∀ (x0 : Option Nat) (x1 : Int32) (x2 : Int32) (x3 : Int32) (h : ax_Hp), ax_W G p l e s mi args below meth c 4 (d + 1) h0 5 [(0, ax_A x0), (1, ax_I x1), (2, ax_I x2), (3, ax_I x3)] [] h (k5 x0 x1 x2 x3 h)) (x0 : Option Nat) (x1 : Int32) (x2 : Int32) (x3 : Int32) (h : ax_Hp) : ax_W G p l e s mi args below meth c 4 (d + 1) h0 5 [(0, ax_A x0), (1, ax_I x1), (2, ax_I x2), (3, ax_I x3)] [] h (Arrays_fill_bd5 call  k5 x0 x1 x2 x3 h) := by
  unfold Arrays_fill_bd5
  refine ax_iload_n B 2 d_Arrays_fill_5 rfl rfl ?_
  refine ax_iload_n B 3 d_Arrays_fill_6 rfl rfl ?_
  refine ax_icmp_ge B 20 d_Arrays_fill_7 (by decide) ?_ ?_
  · exact ax_vreturn B d_Arrays_fill_20
  · refine ax_aload_n B 0 d_Arrays_fill_10 rfl rfl ?_
    refine ax_iload_n B 2 d_Arrays_fill_11 rfl rfl ?_
    refine ax_iload_n B 1 d_Arrays_fill_12 rfl rfl ?_
    refine ax_iast (kd := 1) B (by decide) (by decide) rfl d_Arrays_fill_13 (fun h2 => ?_)
    refine ax_iinc (v := x2 + 1) (tv2 := [(2, ax_I (x2 + 1)), (0, ax_A x0), (1, ax_I x1), (3, ax_I x3)]) B 2 d_Arrays_fill_14 rfl (congrArg (_ + ·) (by decide)) (by decide) rfl ?_
    refine ax_goto B 5 d_Arrays_fill_17 (by decide) ?_
    refine ax_sub (tv2 := [(0, ax_A x0), (1, ax_I x1), (2, ax_I (x2 + 1)), (3, ax_I x3)]) [1, 2, 0, 3] rfl ?_
    exact hk5 x0 x1 (x2 + 1) x3 h2
theorem Arrays_fill_lq5 {l : Launch} {G : ax_G} {d : Nat} {call : ax_Cf} (hcall : ax_Hc l G d call) {p : Program} {e : Env} {s : State} {mi : MethodId} {args : Array Value} {below : List Frame} {meth : Method} {c : Code} {h0 : ax_Hp} (B : ax_B G p s mi meth c "java/util/Arrays" prog_22_method_103_code 4 none) (E : c.exceptionTable.isEmpty = true) (Nm : meth.name = y_Arrays_fill.name)   : ∀ (n : Nat) (x0 : Option Nat) (x1 : Int32) (x2 : Int32) (x3 : Int32) (h : ax_Hp), ax_W G p l e s mi args below meth c 4 (d + 1) h0 5 [(0, ax_A x0), (1, ax_I x1), (2, ax_I x2), (3, ax_I x3)] [] h (Arrays_fill_lp5 call  n x0 x1 x2 x3 h)
  | 0, _, _, _, _, _ => ax_none
  | n + 1, x0, x1, x2, x3, h => Arrays_fill_lb5 hcall B E Nm   (Arrays_fill_lq5 hcall B E Nm   n) x0 x1 x2 x3 h
def Arrays_fill_b (call : ax_Cf) (x0 : Option Nat) (x1 : Int32) (h : ax_Hp) : ax_O :=
  (ax_len h x0 1).bind fun v1 =>
  Arrays_fill_lp5 call ax_fuel x0 x1 0 v1 h
set_option maxHeartbeats 4000000 in
set_option maxRecDepth 20000 in
theorem Arrays_fill_t {l : Launch} {G : ax_G} {d : Nat} {call : ax_Cf} (hcall : ax_Hc l G d call) (x0 : Option Nat) (x1 : Int32) (h : ax_Hp) {r : ax_Rs} {h' : ax_Hp} (ho : Arrays_fill_b call x0 x1 h = some (r, h')) : ax_C l G (d + 1) y_Arrays_fill (.code y_Arrays_fill prog_22_method_103_code 4 none) [ax_A x0, ax_I x1] h r h' := by
  refine ax_enter (by decide) (Nat.le_of_ble_eq_true rfl) ho (fun p e s mi args below meth c B E Nm => ?_)
  have B : ax_B G p s mi meth c "java/util/Arrays" prog_22_method_103_code 4 none := B
  show ax_W G p l e s mi args below meth c 4 (d + 1) h 0 [(0, ax_A x0), (1, ax_I x1)] [] h (Arrays_fill_b call x0 x1 h)
  unfold Arrays_fill_b
  refine ax_iconst (v := 0) B d_Arrays_fill_0 (by decide) ?_
  refine ax_istore_n (tv2 := [(2, ax_I 0), (0, ax_A x0), (1, ax_I x1)]) B d_Arrays_fill_1 rfl (by decide) rfl ?_
  refine ax_aload_n B 1 d_Arrays_fill_2 rfl rfl ?_
  refine ax_alen (kd := 1) B (by decide) d_Arrays_fill_3 (fun v1 => ?_)
  refine ax_istore_n (tv2 := [(3, ax_I v1), (2, ax_I 0), (0, ax_A x0), (1, ax_I x1)]) B d_Arrays_fill_4 rfl (by decide) rfl ?_
  refine ax_sub (tv2 := [(0, ax_A x0), (1, ax_I x1), (2, ax_I 0), (3, ax_I v1)]) [2, 3, 1, 0] rfl ?_
  exact Arrays_fill_lq5 hcall B E Nm ax_fuel x0 x1 0 v1 h
