/-- a cell more -/
def hN (h : ax_Hp) (n : Nat) (o : ax_Ob) : ax_Hp := (h.1 + 1, h.2.1 + n, fun q => if q = h.1 + 1 then some o else h.2.2 q)
theorem hN_1 (h : ax_Hp) (n : Nat) (o : ax_Ob) : (hN h n o).1 = h.1 + 1 := rfl
theorem hN_2 (h : ax_Hp) (n : Nat) (o : ax_Ob) : (hN h n o).2.1 = h.2.1 + n := rfl
theorem hN_at {h : ax_Hp} {n : Nat} {o : ax_Ob} {q : Nat} (e : q = h.1 + 1) : (hN h n o).2.2 q = some o := if_pos e
theorem hN_ne {h : ax_Hp} {n : Nat} {o : ax_Ob} {q : Nat} (e : q ≠ h.1 + 1) : (hN h n o).2.2 q = h.2.2 q := if_neg e
theorem hN_set {h : ax_Hp} {n : Nat} {o o' : ax_Ob} {q : Nat} (e : q = h.1 + 1) : ax_set (hN h n o) q o' = hN h n o' := by
  refine Prod.ext rfl (Prod.ext rfl ?_)
  funext x
  show (if x = q then some o' else if x = h.1 + 1 then some o else h.2.2 x) = if x = h.1 + 1 then some o' else h.2.2 x
  by_cases c : x = q
  · rw [if_pos c, if_pos (by omega)]
  · rw [if_neg c, if_neg (by omega), if_neg (by omega)]
theorem hN_sets {h : ax_Hp} {n : Nat} {o o' : ax_Ob} {q : Nat} (e : q ≠ h.1 + 1) : ax_set (hN h n o) q o' = hN (ax_set h q o') n o := by
  refine Prod.ext rfl (Prod.ext rfl ?_)
  funext x
  show (if x = q then some o' else if x = h.1 + 1 then some o else h.2.2 x) = if x = h.1 + 1 then some o else if x = q then some o' else h.2.2 x
  by_cases c : x = q
  · rw [if_pos c, if_neg (by omega), if_pos c]
  · rw [if_neg c, if_neg c]
theorem ax_new_e {h : ax_Hp} {ci : Nat} {fs : List ax_T} {k : Nat → ax_Hp → ax_O} (hc : h.1 + 1 ≤ ax_CM) (hs : h.2.1 + fs.length ≤ ax_SM) : ax_nw (ax_new h ci fs) k = k (h.1 + 1) (hN h fs.length (.inl (ci, fs))) := by
  unfold ax_nw ax_new ax_add
  rw [if_pos ⟨hc, hs⟩]
  rfl
theorem ax_na_e {h : ax_Hp} {kd : Nat} {n : Int} {dv : ax_T} {k : Nat → ax_Hp → ax_O} (h0 : 0 ≤ n) (h1 : n ≤ 1000000) (hc : h.1 + 1 ≤ ax_CM) (hs : h.2.1 + n.toNat ≤ ax_SM) : ax_nw (ax_na h kd (Int32.ofInt n) dv) k = k (h.1 + 1) (hN h n.toNat (.inr (kd, List.replicate n.toNat dv))) := by
  unfold ax_nw ax_na ax_add
  rw [zi_ix h0 (by omega), if_neg (fun z => z.elim (zi_n0 h0 (by omega)) (fun z => by omega)), if_pos ⟨hc, hs⟩]
  rfl
theorem Cursor_init_e {m a r i : Nat} {n : Int32} {h : ax_Hp} {x y z : ax_T} (ha : h.2.2 a = some (.inl (0, [x, y, z]))) (hr : h.2.2 r = some (.inl (2, [ax_A (some i), ax_I n]))) (har : r ≠ a) : ax_F (m + 1) 20 [ax_A (some a), ax_A (some r)] h = some (.inl none, ax_set h a (.inl (0, [ax_A (some i), ax_I n, z]))) := by
  rw [Cursor_init_F]
  unfold Cursor_init_b
  rw [pl_gr hr rfl, Option.bind_some, pl_pf ha (Nat.le_of_ble_eq_true rfl), Option.bind_some, pl_gi (pl_ne har |>.trans hr) rfl, Option.bind_some, pl_pf pl_set (Nat.le_of_ble_eq_true rfl), Option.bind_some, ax_set_set]
  rfl
theorem ValueReader_init_e {m a : Nat} {x1 x2 x3 : Option Nat} {v : Int32} {h : ax_Hp} {w0 w1 w2 w3 : ax_T} (ha : h.2.2 a = some (.inl (7, [w0, w1, w2, w3]))) (hv : v = 0 ∨ v = 1) : ax_F (m + 1) 22 [ax_A (some a), ax_A x1, ax_A x2, ax_A x3, ax_I v] h = some (.inl none, ax_set h a (.inl (7, [ax_A x1, ax_A x2, ax_A x3, ax_I v]))) := by
  rw [ValueReader_init_F]
  unfold ValueReader_init_b ax_pz
  rw [pl_pf ha (Nat.le_of_ble_eq_true rfl), Option.bind_some, pl_pf pl_set (Nat.le_of_ble_eq_true rfl), Option.bind_some, pl_pf pl_set (Nat.le_of_ble_eq_true rfl), Option.bind_some, if_pos hv, pl_pf pl_set (Nat.le_of_ble_eq_true rfl), Option.bind_some, ax_set_set, ax_set_set, ax_set_set]
  rfl
theorem Row_init_h {m a : Nat} {x1 : Option Nat} {v : Int32} {h : ax_Hp} {w0 w1 : ax_T} (ha : h.2.2 a = some (.inl (2, [w0, w1]))) : ax_F (m + 1) 1 [ax_A (some a), ax_A x1, ax_I v] h = some (.inl none, ax_set h a (.inl (2, [ax_A x1, ax_I v]))) := by
  rw [Row_init_F]
  unfold Row_init_b
  rw [pl_pf ha (Nat.le_of_ble_eq_true rfl), Option.bind_some, pl_pf pl_set (Nat.le_of_ble_eq_true rfl), Option.bind_some, ax_set_set]
  rfl
def regH (h : ax_Hp) (n : Int32) : ax_Hp := hN (hN (hN (hN (hN h 3 (.inl (0, [ax_A (some 3), ax_I n, ax_I 0]))) 3 (.inl (4, [ax_A (some (h.1 + 1)), ax_A (some 4), ax_A (some (h.1 + 5))]))) 2 (.inl (2, [ax_A (some (h.1 + 4)), ax_I 0]))) 0 (.inr (1, []))) 4 (.inl (7, [ax_A (some (h.1 + 1)), ax_A (some 4), ax_A (some (h.1 + 3)), ax_I 1]))
theorem SchemaReader_init_e {m a : Nat} {x1 x2 : Option Nat} {h : ax_Hp} {w0 w1 w2 : ax_T} (ha : h.2.2 a = some (.inl (4, [w0, w1, w2]))) (hl : a ≤ h.1) (hc : h.1 + 3 ≤ ax_CM) (hs : h.2.1 + 6 ≤ ax_SM) : ax_F (m + 2) 21 [ax_A (some a), ax_A x1, ax_A x2] h = some (.inl none, hN (hN (hN (ax_set h a (.inl (4, [ax_A x1, ax_A x2, ax_A (some (h.1 + 3))]))) 2 (.inl (2, [ax_A (some (h.1 + 2)), ax_I 0]))) 0 (.inr (1, []))) 4 (.inl (7, [ax_A x1, ax_A x2, ax_A (some (h.1 + 1)), ax_I 1]))) := by
  rw [SchemaReader_init_F]
  unfold SchemaReader_init_b
  rw [pl_pf ha (Nat.le_of_ble_eq_true rfl), Option.bind_some, pl_pf pl_set (Nat.le_of_ble_eq_true rfl), Option.bind_some, ax_set_set]
  generalize hg : ax_set h a (.inl (4, ([w0, w1, w2].set 0 (ax_A x1)).set 1 (ax_A x2))) = g
  have e1 : g.1 = h.1 := by rw [← hg]; rfl
  have e2 : g.2.1 = h.2.1 := by rw [← hg]; rfl
  have e3 : g.2.2 a = some (.inl (4, [ax_A x1, ax_A x2, w2])) := by rw [← hg]; exact pl_set
  rw [ax_new_e (by omega) (show g.2.1 + 2 ≤ _ by omega)]
  refine Eq.trans (ax_na_e (n := 0) (by omega) (by omega) (show g.1 + 1 + 1 ≤ _ by omega) (show g.2.1 + 2 + 0 ≤ _ by omega)) ?_
  rw [pl_cv (Row_init_h (w0 := ax_A none) (w1 := ax_I 0) (hN_ne (show g.1 + 1 ≠ g.1 + 1 + 1 by omega) |>.trans (hN_at rfl)))]
  rw [hN_sets (show g.1 + 1 ≠ g.1 + 1 + 1 by omega), hN_set rfl]
  rw [ax_new_e (show g.1 + 1 + 1 + 1 ≤ _ by omega) (show g.2.1 + 2 + 0 + 4 ≤ _ by omega)]
  rw [pl_cv (ValueReader_init_e (w0 := ax_A none) (w1 := ax_A none) (w2 := ax_A none) (w3 := ax_I 0) (hN_at rfl) (Or.inr rfl)), hN_set rfl]
  rw [pl_pf (hN_ne (show a ≠ g.1 + 1 + 1 + 1 by omega) |>.trans (hN_ne (show a ≠ g.1 + 1 + 1 by omega) |>.trans (hN_ne (show a ≠ g.1 + 1 by omega) |>.trans e3))) (Nat.le_of_ble_eq_true rfl), Option.bind_some]
  rw [hN_sets (show a ≠ g.1 + 1 + 1 + 1 by omega), hN_sets (show a ≠ g.1 + 1 + 1 by omega), hN_sets (show a ≠ g.1 + 1 by omega), ← hg, ax_set_set]
  rfl
theorem Desk_register_no {m : Nat} {n len p : Int32} {h h2 : ax_Hp} {fs gs : List ax_T} {w0 w1 : ax_T} (hd : h.2.2 1 = some (.inl (8, fs))) (h0 : fs[0]? = some (ax_A (some 2))) (h1 : fs[1]? = some (ax_A (some 4))) (h3 : fs[3]? = some (ax_A (some 14))) (hj : h.2.2 14 = some (.inr (5, sjs))) (hn : isSub n = true) (ht : h.2.2 2 = some (.inl (2, [ax_A (some 3), ax_I len]))) (hl : 59 ≤ h.1) (hc : h.1 + 5 ≤ ax_CM) (hs : h.2.1 + 12 ≤ ax_SM)
    (hw : ax_F (m + 3) 23 [ax_A (some (h.1 + 2))] (regH h len) = some (.inl (some (ax_I 0)), h2)) (hcu : h2.2.2 (h.1 + 1) = some (.inl (0, [w0, w1, ax_I p]))) (hd2 : h2.2.2 1 = some (.inl (8, gs))) (hgl : gs.length = 8) (hc2 : h2.1 + 1 ≤ ax_CM) (hs2 : h2.2.1 + 6 ≤ ax_SM) : ax_F (m + 4) 19 [ax_A (some 1), ax_I n] h = some (.inr (0, h2.1 + 1), thr (ax_set h2 1 (.inl (8, gs.set 7 (ax_I p))))) := by
  rw [Desk_register_F]
  unfold Desk_register_b
  rw [pl_on hd, pl_cr (Desk_subjectAt_e hd h3 hj hn)]
  rw [ax_new_e (by omega) (show h.2.1 + 3 ≤ _ by omega)]
  rw [pl_gr (hN_ne (show 1 ≠ h.1 + 1 by omega) |>.trans hd) h0, Option.bind_some]
  rw [pl_cv (Cursor_init_e (x := ax_A none) (y := ax_I 0) (z := ax_I 0) (hN_at rfl) (hN_ne (show 2 ≠ h.1 + 1 by omega) |>.trans ht) (by omega)), hN_set rfl]
  rw [ax_new_e (show h.1 + 1 + 1 ≤ _ by omega) (show h.2.1 + 3 + 3 ≤ _ by omega)]
  rw [pl_gr (hN_ne (show 1 ≠ h.1 + 1 + 1 by omega) |>.trans (hN_ne (show 1 ≠ h.1 + 1 by omega) |>.trans hd)) h1, Option.bind_some]
  refine Eq.trans (pl_cv (SchemaReader_init_e (m := m + 1) (h := hN (hN h 3 (.inl (0, [ax_A (some 3), ax_I len, ax_I 0]))) 3 (.inl (4, [ax_A none, ax_A none, ax_A none]))) (a := h.1 + 1 + 1) (x1 := some (h.1 + 1)) (x2 := some 4) (w0 := ax_A none) (w1 := ax_A none) (w2 := ax_A none) (hN_at rfl) (show h.1 + 1 + 1 ≤ h.1 + 1 + 1 from Nat.le_refl _) (show h.1 + 1 + 1 + 3 ≤ _ by omega) (show h.2.1 + 3 + 3 + 6 ≤ _ by omega))) ?_
  rw [hN_set (show h.1 + 1 + 1 = (hN h 3 (.inl (0, [ax_A (some 3), ax_I len, ax_I 0]))).1 + 1 from rfl)]
  have e : ∀ k, ax_on (regH h len) (some (h.1 + 2)) 4 k = k := fun k => pl_on (hN_ne (show h.1 + 2 ≠ h.1 + 4 + 1 by omega) |>.trans (hN_ne (show h.1 + 2 ≠ h.1 + 3 + 1 by omega) |>.trans (hN_ne (show h.1 + 2 ≠ h.1 + 2 + 1 by omega) |>.trans (hN_at rfl))))
  refine Eq.trans (e _) ?_
  refine Eq.trans (pl_ci hw) ?_
  rw [if_pos rfl, pl_on hcu]
  have e2 : ax_F (m + 3) 27 [ax_A (some (h.1 + 1))] h2 = some (.inl (some (ax_I p)), h2) := by
    rw [Cursor_at_F]
    unfold Cursor_at_b
    rw [pl_gi hcu rfl]
    rfl
  rw [pl_ci e2, pl_pf hd2 (by omega), Option.bind_some]
  exact ax_th_e (h := ax_set h2 1 (.inl (8, gs.set 7 (ax_I p)))) hc2 hs2
