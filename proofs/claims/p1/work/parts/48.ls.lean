/-- a picture whose own cells are a list -/
def ax_ls (s : Nat) (L : List ax_Ob) (sc : Option ax_Ob) : ax_Hp := (L.length, s, fun q => if q = 0 then sc else L[q - 1]?)
theorem ls_at {s : Nat} {L : List ax_Ob} {sc : Option ax_Ob} (i : Nat) : (ax_ls s L sc).2.2 (i + 1) = L[i]? := by
  show (if i + 1 = 0 then sc else L[i + 1 - 1]?) = _
  rw [if_neg (Nat.succ_ne_zero i), Nat.add_sub_cancel]
theorem ls_add {s : Nat} {L : List ax_Ob} {sc : Option ax_Ob} {n : Nat} {o : ax_Ob} (hc : L.length + 1 ≤ ax_CM) (hs : s + n ≤ ax_SM) : ax_add (ax_ls s L sc) n (some o) = some (L.length + 1, ax_ls (s + n) (L ++ [o]) sc) := by
  unfold ax_add
  rw [if_pos ⟨hc, hs⟩]
  refine congrArg some (Prod.ext rfl (Prod.ext ?_ (Prod.ext rfl ?_)))
  · show L.length + 1 = (L ++ [o]).length
    rw [List.length_append]; rfl
  · funext q
    show (if q = L.length + 1 then some o else if q = 0 then sc else L[q - 1]?) = if q = 0 then sc else (L ++ [o])[q - 1]?
    by_cases h0 : q = 0
    · rw [if_pos h0, if_pos h0, if_neg (by omega)]
    · rw [if_neg h0, if_neg h0]
      by_cases h1 : q = L.length + 1
      · rw [if_pos h1, h1, Nat.add_sub_cancel, List.getElem?_append_right (Nat.le_refl _), Nat.sub_self]
        rfl
      · rw [if_neg h1]
        by_cases h2 : q - 1 < L.length
        · rw [List.getElem?_append_left h2]
        · rw [List.getElem?_eq_none (by omega), List.getElem?_eq_none (by rw [List.length_append]; show L.length + 1 ≤ _; omega)]
theorem ls_set {s : Nat} {L : List ax_Ob} {sc : Option ax_Ob} {i : Nat} {o : ax_Ob} (hi : i < L.length) : ax_set (ax_ls s L sc) (i + 1) o = ax_ls s (L.set i o) sc := by
  refine Prod.ext ?_ (Prod.ext rfl ?_)
  · show L.length = (L.set i o).length
    rw [List.length_set]
  · funext q
    show (if q = i + 1 then some o else if q = 0 then sc else L[q - 1]?) = if q = 0 then sc else (L.set i o)[q - 1]?
    by_cases h0 : q = 0
    · rw [if_pos h0, if_pos h0, if_neg (by omega)]
    · rw [if_neg h0, if_neg h0]
      by_cases h1 : q = i + 1
      · rw [if_pos h1, h1, Nat.add_sub_cancel, List.getElem?_set_self hi]
      · rw [if_neg h1, List.getElem?_set_ne (by omega)]
theorem ls_new {s : Nat} {L : List ax_Ob} {sc : Option ax_Ob} {ci : Nat} {fs : List ax_T} {q : Nat → ax_Hp → ax_O} (a n : Nat) (ha : L.length + 1 = a) (hn : fs.length = n) (hc : a ≤ ax_CM) (hs : s + n ≤ ax_SM) : ax_nw (ax_new (ax_ls s L sc) ci fs) q = q a (ax_ls (s + n) (L ++ [.inl (ci, fs)]) sc) := by
  subst ha; subst hn
  unfold ax_nw ax_new
  rw [ls_add hc hs]
  rfl
theorem ls_na {s : Nat} {L : List ax_Ob} {sc : Option ax_Ob} {kd : Nat} {n : Int32} {dv : ax_T} {q : Nat → ax_Hp → ax_O} (a N : Nat) (ha : L.length + 1 = a) (h0 : ¬ n < 0) (hN : n.toNatClampNeg = N) (hb : N ≤ 1000000) (hc : a ≤ ax_CM) (hs : s + N ≤ ax_SM) : ax_nw (ax_na (ax_ls s L sc) kd n dv) q = q a (ax_ls (s + N) (L ++ [.inr (kd, List.replicate N dv)]) sc) := by
  subst ha; subst hN
  unfold ax_nw ax_na
  rw [if_neg (fun h => h.elim h0 (fun h => absurd hb (Nat.not_le.mpr h))), ls_add hc hs]
  rfl
theorem ls_obj {s : Nat} {L : List ax_Ob} {sc : Option ax_Ob} {i ci : Nat} {fs : List ax_T} (h : L[i]? = some (.inl (ci, fs))) : ax_obj (ax_ls s L sc) (some (i + 1)) ci = some fs := by
  unfold ax_obj ax_at?
  rw [Option.bind_some, ls_at, h]
  exact if_pos rfl
theorem ls_arr {s : Nat} {L : List ax_Ob} {sc : Option ax_Ob} {i kd : Nat} {es : List ax_T} (h : L[i]? = some (.inr (kd, es))) : ax_arr (ax_ls s L sc) (some (i + 1)) kd = some es := by
  unfold ax_arr ax_at?
  rw [Option.bind_some, ls_at, h]
  exact if_pos rfl
theorem ls_lt {L : List ax_Ob} {i : Nat} {o : ax_Ob} (h : L[i]? = some o) : i < L.length := (List.getElem?_eq_some_iff.mp h).1
theorem ls_pf {s : Nat} {L : List ax_Ob} {sc : Option ax_Ob} {i ci k : Nat} {fs : List ax_T} {v : ax_T} {q : ax_Hp → ax_O} (h : L[i]? = some (.inl (ci, fs))) (hk : k < fs.length) : (ax_pf (ax_ls s L sc) (some (i + 1)) ci k v).bind q = q (ax_ls s (L.set i (.inl (ci, fs.set k v))) sc) := by
  unfold ax_pf
  rw [ls_obj h, Option.bind_some, if_pos hk, Option.bind_some]
  show q (ax_set _ _ _) = _
  rw [ls_set (ls_lt h)]
theorem ls_gr {s : Nat} {L : List ax_Ob} {sc : Option ax_Ob} {i ci k : Nat} {fs : List ax_T} {v : Option Nat} {q : Option Nat → ax_O} (h : L[i]? = some (.inl (ci, fs))) (hk : fs[k]? = some (ax_A v)) : (ax_gr (ax_ls s L sc) (some (i + 1)) ci k).bind q = q v := by
  unfold ax_gr ax_gf
  rw [ls_obj h, Option.bind_some, hk]
  rfl
theorem ls_sa {s : Nat} {L : List ax_Ob} {sc : Option ax_Ob} {i j kd ci n : Nat} {fs es : List ax_T} {x : Int32} {q : ax_Hp → ax_O} (h : L[i]? = some (.inr (kd, es))) (hj : L[j]? = some (.inl (ci, fs))) (h0 : ¬ x < 0) (hn : x.toNatClampNeg = n) (hlt : n < es.length) : (ax_sa (ax_ls s L sc) (some (i + 1)) kd ci x (some (j + 1))).bind q = q (ax_ls s (L.set i (.inr (kd, es.set n (ax_A (some (j + 1)))))) sc) := by
  subst hn
  show ((ax_obj (ax_ls s L sc) (some (j + 1)) ci).bind fun _ => ax_st (ax_ls s L sc) (some (i + 1)) kd x (ax_A (some (j + 1)))).bind q = _
  unfold ax_st
  rw [ls_obj hj, Option.bind_some, ls_arr h, Option.bind_some, if_neg (fun z => z.elim h0 (fun z => absurd hlt (Nat.not_lt.mpr z))), Option.bind_some]
  show q (ax_set _ _ _) = _
  rw [ls_set (ls_lt h)]
theorem ls_cv {f : ax_O} {h : ax_Hp} {k : ax_Hp → ax_O} (e : f = some (.inl none, h)) : ax_cv f k = k h := by
  subst e; rfl
theorem ax_F_s (n : Nat) : ax_F (n + 1) = ax_tb (ax_F n) := rfl
theorem Desk_init_lpF {call : ax_Cf} {n : Nat} {x : Option Nat} {v : Int32} {h : ax_Hp} : Desk_init_lp110 call (n + 1) x v h = Desk_init_bd110 call (Desk_init_lp110 call n) x v h := rfl
theorem Row_init_e {n s : Nat} {L : List ax_Ob} {sc : Option ax_Ob} {i : Nat} {b : Option Nat} {v : Int32} {x y : ax_T} (h : L[i]? = some (.inl (2, [x, y]))) : ax_F (n + 1) 1 [ax_A (some (i + 1)), ax_A b, ax_I v] (ax_ls s L sc) = some (.inl none, ax_ls s (L.set i (.inl (2, [ax_A b, ax_I v]))) sc) := by
  rw [Row_init_F]
  unfold Row_init_b
  refine Eq.trans (ls_pf h (Nat.le_of_ble_eq_true rfl)) ?_
  refine Eq.trans (ls_pf (List.getElem?_set_self (ls_lt h)) (Nat.le_of_ble_eq_true rfl)) ?_
  rw [List.set_set]
  rfl
theorem Schema_init_e {n s : Nat} {L : List ax_Ob} {sc : Option ax_Ob} {i : Nat} {a b c d : Option Nat} {x y z w : ax_T} (h : L[i]? = some (.inl (3, [x, y, z, w]))) : ax_F (n + 1) 2 [ax_A (some (i + 1)), ax_A a, ax_A b, ax_A c, ax_A d] (ax_ls s L sc) = some (.inl none, ax_ls s (L.set i (.inl (3, [ax_A a, ax_A b, ax_A c, ax_A d]))) sc) := by
  rw [Schema_init_F]
  unfold Schema_init_b
  refine Eq.trans (ls_pf h (Nat.le_of_ble_eq_true rfl)) ?_
  refine Eq.trans (ls_pf (List.getElem?_set_self (ls_lt h)) (Nat.le_of_ble_eq_true rfl)) ?_
  rw [List.set_set]
  refine Eq.trans (ls_pf (List.getElem?_set_self (ls_lt h)) (Nat.le_of_ble_eq_true rfl)) ?_
  rw [List.set_set]
  refine Eq.trans (ls_pf (List.getElem?_set_self (ls_lt h)) (Nat.le_of_ble_eq_true rfl)) ?_
  rw [List.set_set]
  rfl
theorem Subject_init_e {n s : Nat} {L : List ax_Ob} {sc : Option ax_Ob} {i : Nat} {x y z : ax_T} (a : Nat) (ha : L.length + 1 = a) (h : L[i]? = some (.inl (6, [x, y, z]))) (hc : a ≤ ax_CM) (hs : s + 6 ≤ ax_SM) : ax_F (n + 1) 3 [ax_A (some (i + 1))] (ax_ls s L sc) = some (.inl none, ax_ls (s + 6) ((L ++ [(.inr (6, List.replicate 6 (ax_A none)) : ax_Ob)]).set i (.inl (6, [ax_A (some a), y, z]))) sc) := by
  rw [Subject_init_F]
  unfold Subject_init_b
  refine Eq.trans (ls_na a 6 ha (by decide) (by decide) (by decide) hc hs) ?_
  refine Eq.trans (ls_pf (i := i) (fs := [x, y, z]) (by rw [List.getElem?_append_left (ls_lt h)]; exact h) (Nat.le_of_ble_eq_true rfl)) ?_
  rfl
theorem ls_len {pre arrs : List ax_Ob} {o : ax_Ob} {i m : Nat} (hi : pre.length = i) (hm : arrs.length = m) : (pre ++ o :: arrs).length = i + 1 + m := by
  rw [List.length_append, List.length_cons, hi, hm]; omega
theorem ls_mid {pre arrs : List ax_Ob} {o : ax_Ob} {i : Nat} (hi : pre.length = i) : (pre ++ o :: arrs)[i]? = some o := by
  rw [List.getElem?_append_right (by omega), ← hi, Nat.sub_self]; rfl
theorem ls_midset {pre arrs : List ax_Ob} {o o' : ax_Ob} {i : Nat} (hi : pre.length = i) : (pre ++ o :: arrs).set i o' = pre ++ o' :: arrs := by
  rw [List.set_append_right _ _ (by omega), ← hi, Nat.sub_self]; rfl
theorem ls_mpf {s : Nat} {pre arrs : List ax_Ob} {sc : Option ax_Ob} {i ci k : Nat} {fs : List ax_T} {v : ax_T} {q : ax_Hp → ax_O} (hi : pre.length = i) (hk : k < fs.length) : (ax_pf (ax_ls s (pre ++ .inl (ci, fs) :: arrs) sc) (some (i + 1)) ci k v).bind q = q (ax_ls s (pre ++ .inl (ci, fs.set k v) :: arrs) sc) := by
  rw [ls_pf (ls_mid hi) hk, ls_midset hi]
theorem ls_step {s : Nat} {pre arrs : List ax_Ob} {sc : Option ax_Ob} {i ci k kd m : Nat} {fs : List ax_T} {n : Int32} {dv : ax_T} {q : ax_Hp → ax_O} (a N : Nat) (hi : pre.length = i) (hm : arrs.length = m) (hk : k < fs.length) (ha : i + 1 + m + 1 = a) (h0 : ¬ n < 0) (hN : n.toNatClampNeg = N) (hb : N ≤ 1000000) (hc : a ≤ ax_CM) (hs : s + N ≤ ax_SM) :
    (ax_nw (ax_na (ax_ls s (pre ++ .inl (ci, fs) :: arrs) sc) kd n dv) fun a1 h2 => (ax_pf h2 (some (i + 1)) ci k (ax_A (some a1))).bind q) = q (ax_ls (s + N) (pre ++ .inl (ci, fs.set k (ax_A (some a))) :: (arrs ++ [.inr (kd, List.replicate N dv)])) sc) := by
  rw [ls_na a N (by rw [ls_len hi hm]; exact ha) h0 hN hb hc hs, List.append_assoc, List.cons_append, ls_mpf hi hk]
theorem ls_new2 {s : Nat} {L L2 : List ax_Ob} {sc : Option ax_Ob} {ci : Nat} {fs : List ax_T} {q : Nat → ax_Hp → ax_O} (a n : Nat) (ha : L.length + 1 = a) (hn : fs.length = n) (hc : a ≤ ax_CM) (hs : s + n ≤ ax_SM) (hL : L ++ [.inl (ci, fs)] = L2) (s2 : Nat) (h2 : s + n = s2) : ax_nw (ax_new (ax_ls s L sc) ci fs) q = q a (ax_ls s2 L2 sc) := by
  subst hL; subst h2; exact ls_new a n ha hn hc hs
theorem ls_na2 {s : Nat} {L L2 : List ax_Ob} {sc : Option ax_Ob} {kd : Nat} {n : Int32} {dv : ax_T} {q : Nat → ax_Hp → ax_O} (a N : Nat) (ha : L.length + 1 = a) (h0 : ¬ n < 0) (hN : n.toNatClampNeg = N) (hb : N ≤ 1000000) (hc : a ≤ ax_CM) (hs : s + N ≤ ax_SM) (hL : L ++ [.inr (kd, List.replicate N dv)] = L2) (s2 : Nat) (h2 : s + N = s2) : ax_nw (ax_na (ax_ls s L sc) kd n dv) q = q a (ax_ls s2 L2 sc) := by
  subst hL; subst h2; exact ls_na a N ha h0 hN hb hc hs
theorem ls_pf2 {s : Nat} {L L2 : List ax_Ob} {sc : Option ax_Ob} (i : Nat) {ci k : Nat} {fs : List ax_T} {v : ax_T} {q : ax_Hp → ax_O} (h : L[i]? = some (.inl (ci, fs))) (hk : k < fs.length) (hL : L.set i (.inl (ci, fs.set k v)) = L2) : (ax_pf (ax_ls s L sc) (some (i + 1)) ci k v).bind q = q (ax_ls s L2 sc) := by
  subst hL; exact ls_pf h hk
theorem ls_cv2 {f : ax_O} {s : Nat} {L L2 : List ax_Ob} {sc : Option ax_Ob} {k : ax_Hp → ax_O} (e : f = some (.inl none, ax_ls s L sc)) (hL : L = L2) (s2 : Nat) (h2 : s = s2) : ax_cv f k = k (ax_ls s2 L2 sc) := by
  subst e; subst hL; subst h2; rfl
theorem ls_sa2 {s : Nat} {L L2 : List ax_Ob} {sc : Option ax_Ob} {i j kd ci n : Nat} {fs es : List ax_T} {x : Int32} {q : ax_Hp → ax_O} (h : L[i]? = some (.inr (kd, es))) (hj : L[j]? = some (.inl (ci, fs))) (h0 : ¬ x < 0) (hn : x.toNatClampNeg = n) (hlt : n < es.length) (hL : L.set i (.inr (kd, es.set n (ax_A (some (j + 1))))) = L2) : (ax_sa (ax_ls s L sc) (some (i + 1)) kd ci x (some (j + 1))).bind q = q (ax_ls s L2 sc) := by
  subst hL; exact ls_sa h hj h0 hn hlt
def Law_law_k (call : ax_Cf) (h : ax_Hp) (k : Nat → Nat → Nat → ax_Hp → ax_O) : ax_O :=
  ax_nw (ax_new h 8 [ax_A none, ax_A none, ax_A none, ax_A none, ax_A none, ax_A none, ax_A none, ax_I 0]) fun a1 h2 =>
  ax_cv (call 0 [ax_A (some a1)] h2) fun h3 =>
  ax_nw (ax_new h3 9 [ax_I 0, ax_I 0, ax_A none, ax_I 0, ax_A none, ax_I 0, ax_A none, ax_I 0, ax_A none, ax_I 0, ax_A none, ax_A none, ax_A none, ax_A none, ax_A none, ax_A none, ax_A none, ax_A none, ax_A none, ax_A none, ax_A none, ax_A none, ax_A none, ax_A none, ax_A none, ax_A none, ax_I 0, ax_A none, ax_A none, ax_I 0, ax_I 0, ax_I 0, ax_A none, ax_A none, ax_A none, ax_A none, ax_A none, ax_L 0, ax_I 0, ax_I 0, ax_I 0, ax_A none, ax_A none, ax_A none, ax_A none, ax_A none, ax_A none, ax_A none, ax_I 0, ax_I 0]) fun a5 h6 =>
  ax_cv (call 143 [ax_A (some a5)] h6) fun h7 =>
  ax_nw (ax_na h7 2 1 (ax_L 0)) fun a9 h10 =>
  k a1 a5 a9 h10
theorem Law_law_kb (call : ax_Cf) (x0 : Option Nat) (h : ax_Hp) : Law_law_b call x0 h = Law_law_k call h (fun a b c h => Law_law_lp23 call ax_fuel x0 (some a) (some b) (some c) 0 h) := rfl
