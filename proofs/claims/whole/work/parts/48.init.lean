/-- a picture whose own cells are a list -/
def ax_ls (s : Nat) (L : List ax_Ob) (sc : Option ax_Ob) : ax_Hp := (L.length, s, fun q => if q = 0 then sc else L[q - 1]?)
theorem ls_at {s : Nat} {L : List ax_Ob} {sc : Option ax_Ob} (i : Nat) : (ax_ls s L sc).2.2 (i + 1) = L[i]? := by
  show (if i + 1 = 0 then sc else L[i + 1 - 1]?) = _
  rw [if_neg (Nat.succ_ne_zero i), Nat.add_sub_cancel]
theorem ls_add {s : Nat} {L : List ax_Ob} {sc : Option ax_Ob} {n : Nat} {o : ax_Ob} (hc : L.length + 1 ≤ ax_CM) (hs : s + n ≤ ax_SM) : ax_add (ax_ls s L sc) n (some o) = some (L.length + 1, ax_ls (s + n) (L ++ [o]) sc) := by
  unfold ax_add
  rw [if_pos ⟨hc, hs⟩]
  refine congrArg some (Prod.ext rfl (Prod.ext ?_ (Prod.ext rfl ?_)))
  · show L.length + 1 = (L ++ [o]).length
    rw [List.length_append]; rfl
  · funext q
    show (if q = L.length + 1 then some o else if q = 0 then sc else L[q - 1]?) = if q = 0 then sc else (L ++ [o])[q - 1]?
    by_cases h0 : q = 0
    · rw [if_pos h0, if_pos h0, if_neg (by omega)]
    · rw [if_neg h0, if_neg h0]
      by_cases h1 : q = L.length + 1
      · rw [if_pos h1, h1, Nat.add_sub_cancel, List.getElem?_append_right (Nat.le_refl _), Nat.sub_self]
        rfl
      · rw [if_neg h1]
        by_cases h2 : q - 1 < L.length
        · rw [List.getElem?_append_left h2]
        · rw [List.getElem?_eq_none (by omega), List.getElem?_eq_none (by rw [List.length_append]; show L.length + 1 ≤ _; omega)]
theorem ls_set {s : Nat} {L : List ax_Ob} {sc : Option ax_Ob} {i : Nat} {o : ax_Ob} (hi : i < L.length) : ax_set (ax_ls s L sc) (i + 1) o = ax_ls s (L.set i o) sc := by
  refine Prod.ext ?_ (Prod.ext rfl ?_)
  · show L.length = (L.set i o).length
    rw [List.length_set]
  · funext q
    show (if q = i + 1 then some o else if q = 0 then sc else L[q - 1]?) = if q = 0 then sc else (L.set i o)[q - 1]?
    by_cases h0 : q = 0
    · rw [if_pos h0, if_pos h0, if_neg (by omega)]
    · rw [if_neg h0, if_neg h0]
      by_cases h1 : q = i + 1
      · rw [if_pos h1, h1, Nat.add_sub_cancel, List.getElem?_set_self hi]
      · rw [if_neg h1, List.getElem?_set_ne (by omega)]
theorem ls_new {s : Nat} {L : List ax_Ob} {sc : Option ax_Ob} {ci : Nat} {fs : List ax_T} {q : Nat → ax_Hp → ax_O} (a n : Nat) (ha : L.length + 1 = a) (hn : fs.length = n) (hc : a ≤ ax_CM) (hs : s + n ≤ ax_SM) : ax_nw (ax_new (ax_ls s L sc) ci fs) q = q a (ax_ls (s + n) (L ++ [.inl (ci, fs)]) sc) := by
  subst ha; subst hn
  unfold ax_nw ax_new
  rw [ls_add hc hs]
  rfl
theorem ls_na {s : Nat} {L : List ax_Ob} {sc : Option ax_Ob} {kd : Nat} {n : Int32} {dv : ax_T} {q : Nat → ax_Hp → ax_O} (a N : Nat) (ha : L.length + 1 = a) (h0 : ¬ n < 0) (hN : n.toNatClampNeg = N) (hb : N ≤ 1000000) (hc : a ≤ ax_CM) (hs : s + N ≤ ax_SM) : ax_nw (ax_na (ax_ls s L sc) kd n dv) q = q a (ax_ls (s + N) (L ++ [.inr (kd, List.replicate N dv)]) sc) := by
  subst ha; subst hN
  unfold ax_nw ax_na
  rw [if_neg (fun h => h.elim h0 (fun h => absurd hb (Nat.not_le.mpr h))), ls_add hc hs]
  rfl
theorem ls_obj {s : Nat} {L : List ax_Ob} {sc : Option ax_Ob} {i ci : Nat} {fs : List ax_T} (h : L[i]? = some (.inl (ci, fs))) : ax_obj (ax_ls s L sc) (some (i + 1)) ci = some fs := by
  unfold ax_obj ax_at?
  rw [Option.bind_some, ls_at, h]
  exact if_pos rfl
theorem ls_arr {s : Nat} {L : List ax_Ob} {sc : Option ax_Ob} {i kd : Nat} {es : List ax_T} (h : L[i]? = some (.inr (kd, es))) : ax_arr (ax_ls s L sc) (some (i + 1)) kd = some es := by
  unfold ax_arr ax_at?
  rw [Option.bind_some, ls_at, h]
  exact if_pos rfl
theorem ls_lt {L : List ax_Ob} {i : Nat} {o : ax_Ob} (h : L[i]? = some o) : i < L.length := (List.getElem?_eq_some_iff.mp h).1
theorem ls_pf {s : Nat} {L : List ax_Ob} {sc : Option ax_Ob} {i ci k : Nat} {fs : List ax_T} {v : ax_T} {q : ax_Hp → ax_O} (h : L[i]? = some (.inl (ci, fs))) (hk : k < fs.length) : (ax_pf (ax_ls s L sc) (some (i + 1)) ci k v).bind q = q (ax_ls s (L.set i (.inl (ci, fs.set k v))) sc) := by
  unfold ax_pf
  rw [ls_obj h, Option.bind_some, if_pos hk, Option.bind_some]
  show q (ax_set _ _ _) = _
  rw [ls_set (ls_lt h)]
theorem ls_gr {s : Nat} {L : List ax_Ob} {sc : Option ax_Ob} {i ci k : Nat} {fs : List ax_T} {v : Option Nat} {q : Option Nat → ax_O} (h : L[i]? = some (.inl (ci, fs))) (hk : fs[k]? = some (ax_A v)) : (ax_gr (ax_ls s L sc) (some (i + 1)) ci k).bind q = q v := by
  unfold ax_gr ax_gf
  rw [ls_obj h, Option.bind_some, hk]
  rfl
theorem ls_sa {s : Nat} {L : List ax_Ob} {sc : Option ax_Ob} {i j kd ci n : Nat} {fs es : List ax_T} {x : Int32} {q : ax_Hp → ax_O} (h : L[i]? = some (.inr (kd, es))) (hj : L[j]? = some (.inl (ci, fs))) (h0 : ¬ x < 0) (hn : x.toNatClampNeg = n) (hlt : n < es.length) : (ax_sa (ax_ls s L sc) (some (i + 1)) kd ci x (some (j + 1))).bind q = q (ax_ls s (L.set i (.inr (kd, es.set n (ax_A (some (j + 1)))))) sc) := by
  subst hn
  unfold ax_sa ax_st
  rw [ls_obj hj, Option.bind_some, ls_arr h, Option.bind_some, if_neg (fun z => z.elim h0 (fun z => absurd hlt (Nat.not_lt.mpr z))), Option.bind_some]
  show q (ax_set _ _ _) = _
  rw [ls_set (ls_lt h)]
theorem ls_cv {f : ax_O} {h : ax_Hp} {k : ax_Hp → ax_O} (e : f = some (.inl none, h)) : ax_cv f k = k h := by
  subst e; rfl
theorem ax_F_s (n : Nat) : ax_F (n + 1) = ax_tb (ax_F n) := rfl
theorem Row_init_e {n s : Nat} {L : List ax_Ob} {sc : Option ax_Ob} {i : Nat} {b : Option Nat} {v : Int32} {x y : ax_T} (h : L[i]? = some (.inl (2, [x, y]))) : ax_F (n + 1) 1 [ax_A (some (i + 1)), ax_A b, ax_I v] (ax_ls s L sc) = some (.inl none, ax_ls s (L.set i (.inl (2, [ax_A b, ax_I v]))) sc) := by
  show Row_init_b (ax_F n) (i + 1) b v (ax_ls s L sc) = _
  unfold Row_init_b
  refine (ls_pf h (by decide)).trans ?_
  refine (ls_pf (List.getElem?_set_self (ls_lt h)) (Nat.le_of_ble_eq_true rfl)).trans ?_
  rw [List.set_set]
  rfl
theorem Schema_init_e {n s : Nat} {L : List ax_Ob} {sc : Option ax_Ob} {i : Nat} {a b c d : Option Nat} {x y z w : ax_T} (h : L[i]? = some (.inl (3, [x, y, z, w]))) : ax_F (n + 1) 2 [ax_A (some (i + 1)), ax_A a, ax_A b, ax_A c, ax_A d] (ax_ls s L sc) = some (.inl none, ax_ls s (L.set i (.inl (3, [ax_A a, ax_A b, ax_A c, ax_A d]))) sc) := by
  show Schema_init_b (ax_F n) (i + 1) a b c d (ax_ls s L sc) = _
  unfold Schema_init_b
  refine (ls_pf h (by decide)).trans ?_
  refine (ls_pf (List.getElem?_set_self (ls_lt h)) (Nat.le_of_ble_eq_true rfl)).trans ?_
  rw [List.set_set]
  refine (ls_pf (List.getElem?_set_self (ls_lt h)) (Nat.le_of_ble_eq_true rfl)).trans ?_
  rw [List.set_set]
  refine (ls_pf (List.getElem?_set_self (ls_lt h)) (Nat.le_of_ble_eq_true rfl)).trans ?_
  rw [List.set_set]
  rfl
theorem Subject_init_e {n s : Nat} {L : List ax_Ob} {sc : Option ax_Ob} {i : Nat} {x y z : ax_T} (a : Nat) (ha : L.length + 1 = a) (h : L[i]? = some (.inl (6, [x, y, z]))) (hc : a ≤ ax_CM) (hs : s + 6 ≤ ax_SM) : ax_F (n + 1) 3 [ax_A (some (i + 1))] (ax_ls s L sc) = some (.inl none, ax_ls (s + 6) ((L ++ [.inr (6, List.replicate 6 (ax_A none))]).set i (.inl (6, [ax_A (some a), y, z]))) sc) := by
  show Subject_init_b (ax_F n) (i + 1) (ax_ls s L sc) = _
  unfold Subject_init_b
  refine (ls_na a 6 ha (by decide) (by decide) (by decide) hc hs).trans ?_
  refine (ls_pf (i := i) (fs := [x, y, z]) (by rw [List.getElem?_append_left (ls_lt h)]; exact h) (by decide)).trans ?_
  rfl
def Law_law_k (call : ax_Cf) (h : ax_Hp) (k : Nat → Nat → Nat → ax_Hp → ax_O) : ax_O :=
  ax_nw (ax_new h 8 [ax_A none, ax_A none, ax_A none, ax_A none, ax_A none, ax_A none, ax_A none, ax_I 0]) fun a1 h2 =>
  ax_cv (call 0 [ax_A (some a1)] h2) fun h3 =>
  ax_nw (ax_new h3 9 [ax_I 0, ax_I 0, ax_A none, ax_I 0, ax_A none, ax_I 0, ax_A none, ax_I 0, ax_A none, ax_I 0, ax_A none, ax_A none, ax_A none, ax_A none, ax_A none, ax_A none, ax_A none, ax_A none, ax_A none, ax_A none, ax_A none, ax_A none, ax_A none, ax_A none, ax_A none, ax_A none, ax_I 0, ax_A none, ax_A none, ax_I 0, ax_I 0, ax_I 0, ax_A none, ax_A none, ax_A none, ax_A none, ax_A none, ax_L 0, ax_I 0, ax_I 0, ax_I 0, ax_A none, ax_A none, ax_A none, ax_A none, ax_A none, ax_A none, ax_A none, ax_I 0, ax_I 0]) fun a5 h6 =>
  ax_cv (call 143 [ax_A (some a5)] h6) fun h7 =>
  ax_nw (ax_na h7 2 1 (ax_L 0)) fun a9 h10 =>
  k a1 a5 a9 h10
theorem Law_law_kb (call : ax_Cf) (x0 : Option Nat) (h : ax_Hp) : Law_law_b call x0 h = Law_law_k call h (fun a b c h => Law_law_lp23 call ax_fuel x0 (some a) (some b) (some c) 0 h) := rfl
set_option maxHeartbeats 4000000 in
set_option maxRecDepth 20000 in
theorem Desk_init_e {n : Nat} {sc : Option ax_Ob} : ax_F (n + 2) 0 [ax_A (some 1)] (ax_ls 8 [.inl (8, [ax_A none, ax_A none, ax_A none, ax_A none, ax_A none, ax_A none, ax_A none, ax_I 0])] sc) = some (.inl none, ax_ls 1724 [.inl (8, [ax_A (some 2), ax_A (some 4), ax_A (some 8), ax_A (some 14), ax_A (some 23), ax_A (some 10), ax_A (some 12), ax_I (-1)]), .inl (2, [ax_A (some 3), ax_I 0]), .inr (1, List.replicate 160 (ax_I 0)), .inl (3, [ax_A (some 2), ax_A (some 5), ax_A (some 6), ax_A (some 7)]), .inr (1, List.replicate 160 (ax_I 0)), .inr (1, List.replicate 160 (ax_I 0)), .inr (1, List.replicate 160 (ax_I 0)), .inl (2, [ax_A (some 9), ax_I 0]), .inr (1, List.replicate 64 (ax_I 0)), .inl (2, [ax_A (some 11), ax_I 0]), .inr (1, List.replicate 400 (ax_I 0)), .inl (2, [ax_A (some 13), ax_I 0]), .inr (1, List.replicate 400 (ax_I 0)), .inr (5, [ax_A (some 15), ax_A (some 17), ax_A (some 19), ax_A (some 21)]), .inl (6, [ax_A (some 16), ax_I 0, ax_I 0]), .inr (6, List.replicate 6 (ax_A none)), .inl (6, [ax_A (some 18), ax_I 0, ax_I 0]), .inr (6, List.replicate 6 (ax_A none)), .inl (6, [ax_A (some 20), ax_I 0, ax_I 0]), .inr (6, List.replicate 6 (ax_A none)), .inl (6, [ax_A (some 22), ax_I 0, ax_I 0]), .inr (6, List.replicate 6 (ax_A none)), .inr (1, List.replicate 160 (ax_I 0))] sc) := by
  show Desk_init_b (ax_F (n + 1)) 1 _ = _
  unfold Desk_init_b
  refine (ls_new 2 2 rfl rfl (by decide) (by decide)).trans ?_
  refine (ls_na 3 160 rfl (by decide) (by decide) (by decide) (by decide) (by decide)).trans ?_
  refine (ls_cv (Row_init_e (i := 1) rfl)).trans ?_
  refine (ls_pf (i := 0) rfl (by decide)).trans ?_
  refine (ls_new 4 4 rfl rfl (by decide) (by decide)).trans ?_
  refine (ls_na 5 160 rfl (by decide) (by decide) (by decide) (by decide) (by decide)).trans ?_
  refine (ls_na 6 160 rfl (by decide) (by decide) (by decide) (by decide) (by decide)).trans ?_
  refine (ls_na 7 160 rfl (by decide) (by decide) (by decide) (by decide) (by decide)).trans ?_
  refine (ls_cv (Schema_init_e (i := 3) rfl)).trans ?_
  refine (ls_pf (i := 0) rfl (by decide)).trans ?_
  refine (ls_new 8 2 rfl rfl (by decide) (by decide)).trans ?_
  refine (ls_na 9 64 rfl (by decide) (by decide) (by decide) (by decide) (by decide)).trans ?_
  refine (ls_cv (Row_init_e (i := 7) rfl)).trans ?_
  refine (ls_pf (i := 0) rfl (by decide)).trans ?_
  refine (ls_new 10 2 rfl rfl (by decide) (by decide)).trans ?_
  refine (ls_na 11 400 rfl (by decide) (by decide) (by decide) (by decide) (by decide)).trans ?_
  refine (ls_cv (Row_init_e (i := 9) rfl)).trans ?_
  refine (ls_pf (i := 0) rfl (by decide)).trans ?_
  refine (ls_new 12 2 rfl rfl (by decide) (by decide)).trans ?_
  refine (ls_na 13 400 rfl (by decide) (by decide) (by decide) (by decide) (by decide)).trans ?_
  refine (ls_cv (Row_init_e (i := 11) rfl)).trans ?_
  refine (ls_pf (i := 0) rfl (by decide)).trans ?_
  refine (ls_na 14 4 rfl (by decide) (by decide) (by decide) (by decide) (by decide)).trans ?_
  refine (ls_pf (i := 0) rfl (by decide)).trans ?_
  show Desk_init_bd110 _ _ _ _ _ = _
  unfold Desk_init_bd110
  refine (if_neg (by decide)).trans ?_
  refine (ls_gr (i := 0) rfl rfl).trans ?_
  refine (ls_new 15 3 rfl rfl (by decide) (by decide)).trans ?_
  refine (ls_cv (Subject_init_e (i := 14) 16 rfl rfl (by decide) (by decide))).trans ?_
  refine (ls_sa (i := 13) (j := 14) (n := 0) rfl rfl (by decide) (by decide) (by decide)).trans ?_
  show Desk_init_bd110 _ _ _ _ _ = _
  unfold Desk_init_bd110
  refine (if_neg (by decide)).trans ?_
  refine (ls_gr (i := 0) rfl rfl).trans ?_
  refine (ls_new 17 3 rfl rfl (by decide) (by decide)).trans ?_
  refine (ls_cv (Subject_init_e (i := 16) 18 rfl rfl (by decide) (by decide))).trans ?_
  refine (ls_sa (i := 13) (j := 16) (n := 1) rfl rfl (by decide) (by decide) (by decide)).trans ?_
  show Desk_init_bd110 _ _ _ _ _ = _
  unfold Desk_init_bd110
  refine (if_neg (by decide)).trans ?_
  refine (ls_gr (i := 0) rfl rfl).trans ?_
  refine (ls_new 19 3 rfl rfl (by decide) (by decide)).trans ?_
  refine (ls_cv (Subject_init_e (i := 18) 20 rfl rfl (by decide) (by decide))).trans ?_
  refine (ls_sa (i := 13) (j := 18) (n := 2) rfl rfl (by decide) (by decide) (by decide)).trans ?_
  show Desk_init_bd110 _ _ _ _ _ = _
  unfold Desk_init_bd110
  refine (if_neg (by decide)).trans ?_
  refine (ls_gr (i := 0) rfl rfl).trans ?_
  refine (ls_new 21 3 rfl rfl (by decide) (by decide)).trans ?_
  refine (ls_cv (Subject_init_e (i := 20) 22 rfl rfl (by decide) (by decide))).trans ?_
  refine (ls_sa (i := 13) (j := 20) (n := 3) rfl rfl (by decide) (by decide) (by decide)).trans ?_
  show Desk_init_bd110 _ _ _ _ _ = _
  unfold Desk_init_bd110
  refine (if_pos (by decide)).trans ?_
  refine (ls_na 23 160 rfl (by decide) (by decide) (by decide) (by decide) (by decide)).trans ?_
  refine (ls_pf (i := 0) rfl (by decide)).trans ?_
  refine (ls_pf (i := 0) rfl (by decide)).trans ?_
  rfl
set_option maxHeartbeats 4000000 in
set_option maxRecDepth 20000 in
theorem Model_init_e {n : Nat} {sc : Option ax_Ob} : ax_F (n + 1) 143 [ax_A (some 24)] (ax_ls 1774 [.inl (8, [ax_A (some 2), ax_A (some 4), ax_A (some 8), ax_A (some 14), ax_A (some 23), ax_A (some 10), ax_A (some 12), ax_I (-1)]), .inl (2, [ax_A (some 3), ax_I 0]), .inr (1, List.replicate 160 (ax_I 0)), .inl (3, [ax_A (some 2), ax_A (some 5), ax_A (some 6), ax_A (some 7)]), .inr (1, List.replicate 160 (ax_I 0)), .inr (1, List.replicate 160 (ax_I 0)), .inr (1, List.replicate 160 (ax_I 0)), .inl (2, [ax_A (some 9), ax_I 0]), .inr (1, List.replicate 64 (ax_I 0)), .inl (2, [ax_A (some 11), ax_I 0]), .inr (1, List.replicate 400 (ax_I 0)), .inl (2, [ax_A (some 13), ax_I 0]), .inr (1, List.replicate 400 (ax_I 0)), .inr (5, [ax_A (some 15), ax_A (some 17), ax_A (some 19), ax_A (some 21)]), .inl (6, [ax_A (some 16), ax_I 0, ax_I 0]), .inr (6, List.replicate 6 (ax_A none)), .inl (6, [ax_A (some 18), ax_I 0, ax_I 0]), .inr (6, List.replicate 6 (ax_A none)), .inl (6, [ax_A (some 20), ax_I 0, ax_I 0]), .inr (6, List.replicate 6 (ax_A none)), .inl (6, [ax_A (some 22), ax_I 0, ax_I 0]), .inr (6, List.replicate 6 (ax_A none)), .inr (1, List.replicate 160 (ax_I 0)), .inl (9, [ax_I 0, ax_I 0, ax_A none, ax_I 0, ax_A none, ax_I 0, ax_A none, ax_I 0, ax_A none, ax_I 0, ax_A none, ax_A none, ax_A none, ax_A none, ax_A none, ax_A none, ax_A none, ax_A none, ax_A none, ax_A none, ax_A none, ax_A none, ax_A none, ax_A none, ax_A none, ax_A none, ax_I 0, ax_A none, ax_A none, ax_I 0, ax_I 0, ax_I 0, ax_A none, ax_A none, ax_A none, ax_A none, ax_A none, ax_L 0, ax_I 0, ax_I 0, ax_I 0, ax_A none, ax_A none, ax_A none, ax_A none, ax_A none, ax_A none, ax_A none, ax_I 0, ax_I 0])] sc) = some (.inl none, ax_ls 9730 [.inl (8, [ax_A (some 2), ax_A (some 4), ax_A (some 8), ax_A (some 14), ax_A (some 23), ax_A (some 10), ax_A (some 12), ax_I (-1)]), .inl (2, [ax_A (some 3), ax_I 0]), .inr (1, List.replicate 160 (ax_I 0)), .inl (3, [ax_A (some 2), ax_A (some 5), ax_A (some 6), ax_A (some 7)]), .inr (1, List.replicate 160 (ax_I 0)), .inr (1, List.replicate 160 (ax_I 0)), .inr (1, List.replicate 160 (ax_I 0)), .inl (2, [ax_A (some 9), ax_I 0]), .inr (1, List.replicate 64 (ax_I 0)), .inl (2, [ax_A (some 11), ax_I 0]), .inr (1, List.replicate 400 (ax_I 0)), .inl (2, [ax_A (some 13), ax_I 0]), .inr (1, List.replicate 400 (ax_I 0)), .inr (5, [ax_A (some 15), ax_A (some 17), ax_A (some 19), ax_A (some 21)]), .inl (6, [ax_A (some 16), ax_I 0, ax_I 0]), .inr (6, List.replicate 6 (ax_A none)), .inl (6, [ax_A (some 18), ax_I 0, ax_I 0]), .inr (6, List.replicate 6 (ax_A none)), .inl (6, [ax_A (some 20), ax_I 0, ax_I 0]), .inr (6, List.replicate 6 (ax_A none)), .inl (6, [ax_A (some 22), ax_I 0, ax_I 0]), .inr (6, List.replicate 6 (ax_A none)), .inr (1, List.replicate 160 (ax_I 0)), .inl (9, [ax_I 0, ax_I 0, ax_A (some 25), ax_I 0, ax_A (some 26), ax_I 0, ax_A (some 27), ax_I 0, ax_A (some 28), ax_I (-1), ax_A (some 29), ax_A (some 30), ax_A (some 31), ax_A (some 32), ax_A (some 33), ax_A (some 34), ax_A (some 35), ax_A (some 36), ax_A (some 37), ax_A (some 38), ax_A (some 39), ax_A (some 40), ax_A (some 41), ax_A (some 42), ax_A (some 43), ax_A (some 44), ax_I 0, ax_A (some 45), ax_A (some 46), ax_I 0, ax_I 0, ax_I 0, ax_A (some 47), ax_A (some 48), ax_A (some 49), ax_A (some 50), ax_A (some 51), ax_L 0, ax_I 0, ax_I 0, ax_I 0, ax_A (some 52), ax_A (some 53), ax_A (some 54), ax_A (some 55), ax_A (some 56), ax_A (some 57), ax_A (some 58), ax_I 0, ax_I 0]), .inr (3, List.replicate 160 (ax_I 0)), .inr (1, List.replicate 64 (ax_I 0)), .inr (1, List.replicate 420 (ax_I 0)), .inr (1, List.replicate 420 (ax_I 0)), .inr (1, List.replicate 4 (ax_I 0)), .inr (1, List.replicate 4 (ax_I 0)), .inr (3, List.replicate 3840 (ax_I 0)), .inr (1, List.replicate 24 (ax_I 0)), .inr (3, List.replicate 320 (ax_I 0)), .inr (1, List.replicate 2 (ax_I 0)), .inr (1, List.replicate 2 (ax_I 0)), .inr (3, List.replicate 240 (ax_I 0)), .inr (1, List.replicate 240 (ax_I 0)), .inr (1, List.replicate 240 (ax_I 0)), .inr (1, List.replicate 240 (ax_I 0)), .inr (3, List.replicate 240 (ax_I 0)), .inr (1, List.replicate 240 (ax_I 0)), .inr (1, List.replicate 240 (ax_I 0)), .inr (1, List.replicate 240 (ax_I 0)), .inr (4, List.replicate 320 (ax_I 0)), .inr (1, List.replicate 8 (ax_I 0)), .inr (1, List.replicate 8 (ax_I 0)), .inr (1, List.replicate 10 (ax_I 0)), .inr (1, List.replicate 10 (ax_I 0)), .inr (1, List.replicate 10 (ax_I 0)), .inr (1, List.replicate 10 (ax_I 0)), .inr (1, List.replicate 10 (ax_I 0)), .inr (1, List.replicate 100 (ax_I 0)), .inr (2, List.replicate 240 (ax_L 0)), .inr (1, List.replicate 10 (ax_I 0)), .inr (1, List.replicate 10 (ax_I 0)), .inr (1, List.replicate 10 (ax_I 0)), .inr (1, List.replicate 10 (ax_I 0)), .inr (1, List.replicate 10 (ax_I 0))] sc) := by
  show Model_init_b (ax_F n) 24 _ = _
  unfold Model_init_b
  refine (ls_na 25 160 rfl (by decide) (by decide) (by decide) (by decide) (by decide)).trans ?_
  refine (ls_pf (i := 23) rfl (by decide)).trans ?_
  refine (ls_na 26 64 rfl (by decide) (by decide) (by decide) (by decide) (by decide)).trans ?_
  refine (ls_pf (i := 23) rfl (by decide)).trans ?_
  refine (ls_na 27 420 rfl (by decide) (by decide) (by decide) (by decide) (by decide)).trans ?_
  refine (ls_pf (i := 23) rfl (by decide)).trans ?_
  refine (ls_na 28 420 rfl (by decide) (by decide) (by decide) (by decide) (by decide)).trans ?_
  refine (ls_pf (i := 23) rfl (by decide)).trans ?_
  refine (ls_pf (i := 23) rfl (by decide)).trans ?_
  refine (ls_na 29 4 rfl (by decide) (by decide) (by decide) (by decide) (by decide)).trans ?_
  refine (ls_pf (i := 23) rfl (by decide)).trans ?_
  refine (ls_na 30 4 rfl (by decide) (by decide) (by decide) (by decide) (by decide)).trans ?_
  refine (ls_pf (i := 23) rfl (by decide)).trans ?_
  refine (ls_na 31 3840 rfl (by decide) (by decide) (by decide) (by decide) (by decide)).trans ?_
  refine (ls_pf (i := 23) rfl (by decide)).trans ?_
  refine (ls_na 32 24 rfl (by decide) (by decide) (by decide) (by decide) (by decide)).trans ?_
  refine (ls_pf (i := 23) rfl (by decide)).trans ?_
  refine (ls_na 33 320 rfl (by decide) (by decide) (by decide) (by decide) (by decide)).trans ?_
  refine (ls_pf (i := 23) rfl (by decide)).trans ?_
  refine (ls_na 34 2 rfl (by decide) (by decide) (by decide) (by decide) (by decide)).trans ?_
  refine (ls_pf (i := 23) rfl (by decide)).trans ?_
  refine (ls_na 35 2 rfl (by decide) (by decide) (by decide) (by decide) (by decide)).trans ?_
  refine (ls_pf (i := 23) rfl (by decide)).trans ?_
  refine (ls_na 36 240 rfl (by decide) (by decide) (by decide) (by decide) (by decide)).trans ?_
  refine (ls_pf (i := 23) rfl (by decide)).trans ?_
  refine (ls_na 37 240 rfl (by decide) (by decide) (by decide) (by decide) (by decide)).trans ?_
  refine (ls_pf (i := 23) rfl (by decide)).trans ?_
  refine (ls_na 38 240 rfl (by decide) (by decide) (by decide) (by decide) (by decide)).trans ?_
  refine (ls_pf (i := 23) rfl (by decide)).trans ?_
  refine (ls_na 39 240 rfl (by decide) (by decide) (by decide) (by decide) (by decide)).trans ?_
  refine (ls_pf (i := 23) rfl (by decide)).trans ?_
  refine (ls_na 40 240 rfl (by decide) (by decide) (by decide) (by decide) (by decide)).trans ?_
  refine (ls_pf (i := 23) rfl (by decide)).trans ?_
  refine (ls_na 41 240 rfl (by decide) (by decide) (by decide) (by decide) (by decide)).trans ?_
  refine (ls_pf (i := 23) rfl (by decide)).trans ?_
  refine (ls_na 42 240 rfl (by decide) (by decide) (by decide) (by decide) (by decide)).trans ?_
  refine (ls_pf (i := 23) rfl (by decide)).trans ?_
  refine (ls_na 43 240 rfl (by decide) (by decide) (by decide) (by decide) (by decide)).trans ?_
  refine (ls_pf (i := 23) rfl (by decide)).trans ?_
  refine (ls_na 44 320 rfl (by decide) (by decide) (by decide) (by decide) (by decide)).trans ?_
  refine (ls_pf (i := 23) rfl (by decide)).trans ?_
  refine (ls_na 45 8 rfl (by decide) (by decide) (by decide) (by decide) (by decide)).trans ?_
  refine (ls_pf (i := 23) rfl (by decide)).trans ?_
  refine (ls_na 46 8 rfl (by decide) (by decide) (by decide) (by decide) (by decide)).trans ?_
  refine (ls_pf (i := 23) rfl (by decide)).trans ?_
  refine (ls_na 47 10 rfl (by decide) (by decide) (by decide) (by decide) (by decide)).trans ?_
  refine (ls_pf (i := 23) rfl (by decide)).trans ?_
  refine (ls_na 48 10 rfl (by decide) (by decide) (by decide) (by decide) (by decide)).trans ?_
  refine (ls_pf (i := 23) rfl (by decide)).trans ?_
  refine (ls_na 49 10 rfl (by decide) (by decide) (by decide) (by decide) (by decide)).trans ?_
  refine (ls_pf (i := 23) rfl (by decide)).trans ?_
  refine (ls_na 50 10 rfl (by decide) (by decide) (by decide) (by decide) (by decide)).trans ?_
  refine (ls_pf (i := 23) rfl (by decide)).trans ?_
  refine (ls_na 51 10 rfl (by decide) (by decide) (by decide) (by decide) (by decide)).trans ?_
  refine (ls_pf (i := 23) rfl (by decide)).trans ?_
  refine (ls_na 52 100 rfl (by decide) (by decide) (by decide) (by decide) (by decide)).trans ?_
  refine (ls_pf (i := 23) rfl (by decide)).trans ?_
  refine (ls_na 53 240 rfl (by decide) (by decide) (by decide) (by decide) (by decide)).trans ?_
  refine (ls_pf (i := 23) rfl (by decide)).trans ?_
  refine (ls_na 54 10 rfl (by decide) (by decide) (by decide) (by decide) (by decide)).trans ?_
  refine (ls_pf (i := 23) rfl (by decide)).trans ?_
  refine (ls_na 55 10 rfl (by decide) (by decide) (by decide) (by decide) (by decide)).trans ?_
  refine (ls_pf (i := 23) rfl (by decide)).trans ?_
  refine (ls_na 56 10 rfl (by decide) (by decide) (by decide) (by decide) (by decide)).trans ?_
  refine (ls_pf (i := 23) rfl (by decide)).trans ?_
  refine (ls_na 57 10 rfl (by decide) (by decide) (by decide) (by decide) (by decide)).trans ?_
  refine (ls_pf (i := 23) rfl (by decide)).trans ?_
  refine (ls_na 58 10 rfl (by decide) (by decide) (by decide) (by decide) (by decide)).trans ?_
  refine (ls_pf (i := 23) rfl (by decide)).trans ?_
  rfl
def ax_L0 : List ax_Ob := [.inl (8, [ax_A (some 2), ax_A (some 4), ax_A (some 8), ax_A (some 14), ax_A (some 23), ax_A (some 10), ax_A (some 12), ax_I (-1)]), .inl (2, [ax_A (some 3), ax_I 0]), .inr (1, List.replicate 160 (ax_I 0)), .inl (3, [ax_A (some 2), ax_A (some 5), ax_A (some 6), ax_A (some 7)]), .inr (1, List.replicate 160 (ax_I 0)), .inr (1, List.replicate 160 (ax_I 0)), .inr (1, List.replicate 160 (ax_I 0)), .inl (2, [ax_A (some 9), ax_I 0]), .inr (1, List.replicate 64 (ax_I 0)), .inl (2, [ax_A (some 11), ax_I 0]), .inr (1, List.replicate 400 (ax_I 0)), .inl (2, [ax_A (some 13), ax_I 0]), .inr (1, List.replicate 400 (ax_I 0)), .inr (5, [ax_A (some 15), ax_A (some 17), ax_A (some 19), ax_A (some 21)]), .inl (6, [ax_A (some 16), ax_I 0, ax_I 0]), .inr (6, List.replicate 6 (ax_A none)), .inl (6, [ax_A (some 18), ax_I 0, ax_I 0]), .inr (6, List.replicate 6 (ax_A none)), .inl (6, [ax_A (some 20), ax_I 0, ax_I 0]), .inr (6, List.replicate 6 (ax_A none)), .inl (6, [ax_A (some 22), ax_I 0, ax_I 0]), .inr (6, List.replicate 6 (ax_A none)), .inr (1, List.replicate 160 (ax_I 0)), .inl (9, [ax_I 0, ax_I 0, ax_A (some 25), ax_I 0, ax_A (some 26), ax_I 0, ax_A (some 27), ax_I 0, ax_A (some 28), ax_I (-1), ax_A (some 29), ax_A (some 30), ax_A (some 31), ax_A (some 32), ax_A (some 33), ax_A (some 34), ax_A (some 35), ax_A (some 36), ax_A (some 37), ax_A (some 38), ax_A (some 39), ax_A (some 40), ax_A (some 41), ax_A (some 42), ax_A (some 43), ax_A (some 44), ax_I 0, ax_A (some 45), ax_A (some 46), ax_I 0, ax_I 0, ax_I 0, ax_A (some 47), ax_A (some 48), ax_A (some 49), ax_A (some 50), ax_A (some 51), ax_L 0, ax_I 0, ax_I 0, ax_I 0, ax_A (some 52), ax_A (some 53), ax_A (some 54), ax_A (some 55), ax_A (some 56), ax_A (some 57), ax_A (some 58), ax_I 0, ax_I 0]), .inr (3, List.replicate 160 (ax_I 0)), .inr (1, List.replicate 64 (ax_I 0)), .inr (1, List.replicate 420 (ax_I 0)), .inr (1, List.replicate 420 (ax_I 0)), .inr (1, List.replicate 4 (ax_I 0)), .inr (1, List.replicate 4 (ax_I 0)), .inr (3, List.replicate 3840 (ax_I 0)), .inr (1, List.replicate 24 (ax_I 0)), .inr (3, List.replicate 320 (ax_I 0)), .inr (1, List.replicate 2 (ax_I 0)), .inr (1, List.replicate 2 (ax_I 0)), .inr (3, List.replicate 240 (ax_I 0)), .inr (1, List.replicate 240 (ax_I 0)), .inr (1, List.replicate 240 (ax_I 0)), .inr (1, List.replicate 240 (ax_I 0)), .inr (3, List.replicate 240 (ax_I 0)), .inr (1, List.replicate 240 (ax_I 0)), .inr (1, List.replicate 240 (ax_I 0)), .inr (1, List.replicate 240 (ax_I 0)), .inr (4, List.replicate 320 (ax_I 0)), .inr (1, List.replicate 8 (ax_I 0)), .inr (1, List.replicate 8 (ax_I 0)), .inr (1, List.replicate 10 (ax_I 0)), .inr (1, List.replicate 10 (ax_I 0)), .inr (1, List.replicate 10 (ax_I 0)), .inr (1, List.replicate 10 (ax_I 0)), .inr (1, List.replicate 10 (ax_I 0)), .inr (1, List.replicate 100 (ax_I 0)), .inr (2, List.replicate 240 (ax_L 0)), .inr (1, List.replicate 10 (ax_I 0)), .inr (1, List.replicate 10 (ax_I 0)), .inr (1, List.replicate 10 (ax_I 0)), .inr (1, List.replicate 10 (ax_I 0)), .inr (1, List.replicate 10 (ax_I 0)), .inr (2, List.replicate 1 (ax_L 0))]
theorem ax_h0_ls (xs : List Int32) : ax_h0 xs = ax_ls 0 [] (some (.inr (0, xs.map ax_I))) := by
  refine Prod.ext rfl (Prod.ext rfl ?_)
  funext q
  show (if q = 0 then _ else none) = if q = 0 then _ else ([] : List ax_Ob)[q - 1]?
  rw [List.getElem?_nil]
set_option maxHeartbeats 4000000 in
theorem Law_law_ke (n : Nat) (xs : List Int32) (k : Nat → Nat → Nat → ax_Hp → ax_O) : Law_law_k (ax_F (n + 2)) (ax_h0 xs) k = k 1 24 59 (ax_ls 9731 ax_L0 (some (.inr (0, xs.map ax_I)))) := by
  rw [ax_h0_ls]
  unfold Law_law_k
  refine (ls_new 1 8 rfl rfl (by decide) (by decide)).trans ?_
  refine (ls_cv (Desk_init_e (n := n))).trans ?_
  refine (ls_new 24 50 rfl rfl (by decide) (by decide)).trans ?_
  refine (ls_cv (Model_init_e (n := n + 1))).trans ?_
  refine (ls_na 59 1 rfl (by decide) (by decide) (by decide) (by decide) (by decide)).trans ?_
  rfl
/-- what is left, behind the start -/
theorem ax_True_of (h : ∀ xs : List Int32, xs.length ≤ 2048 → ∃ h', Law_law_lp23 (ax_F 1391) ax_fuel (some 0) (some 1) (some 24) (some 59) 0 (ax_ls 9731 ax_L0 (some (.inr (0, xs.map ax_I)))) = some (.inl (some (ax_I 1)), h')) : ax_True := by
  intro xs hx
  obtain ⟨h', hh⟩ := h xs hx
  refine ⟨h', ?_⟩
  rw [Law_law_kb]
  exact (Law_law_ke 1389 xs _).trans hh
