theorem sH_id {g : ax_Hp} {cu sr sc N : Nat} {q : Int} {x : Int64} (h1 : g.2.2 cu = some (curO N q)) (h2 : g.2.2 sr = some (srO cu sc x)) : sH g cu sr sc N q x = g := by
  refine Prod.ext rfl (Prod.ext rfl ?_)
  funext a
  by_cases c2 : a = sr
  · rw [c2, sH_sr, h2]
  · by_cases c1 : a = cu
    · rw [c1, sH_cu (by omega), h1]
    · rw [sH_o c1 c2]
theorem dH_id {g : ax_Hp} {cu sr sw N dr di : Nat} {f0 fs : Nat → Int} {q : Int} {x : Int64} (h1 : g.2.2 cu = some (curO N q)) (h2 : g.2.2 sr = some (srO cu sw x)) (h3 : g.2.2 dr = some (rwO di 0)) (h4 : g.2.2 di = some (.inr (1, arL 400 f0))) (h5 : g.2.2 23 = some (.inr (1, arL 160 fs))) (hne : dr ≠ di) : dH g cu sr sw N dr di f0 q x [] fs = g := by
  have e1 : ax_set g 23 (.inr (1, arL 160 fs)) = g := by
    refine Prod.ext rfl (Prod.ext rfl ?_)
    funext a
    by_cases c : a = 23
    · rw [c, pl_set, h5]
    · rw [pl_ne c]
  unfold dH
  rw [e1, sH_id h1 h2, ← rH_0 h4 hne]
  refine Prod.ext rfl (Prod.ext rfl ?_)
  funext a
  by_cases c : a = dr
  · rw [c, pl_set, h3]
  · rw [pl_ne c]
/-- the class reads a whole stream -/
theorem Sk_whole {m : Nat} {g : ax_Hp} {cu sr sc N l : Nat} {b c : Int → Int} {fe fn fu : Nat → Int} {x : Int64} (X : stX g cu sr sc N b) (V : verX g sc l c fe fn fu) : ∃ x', ax_F (m + 23) 110 [ax_A (some sr)] (sH g cu sr sc N 0 x) = some (.inl (some (ax_I (Int32.ofInt (if spSc c b 6 0 0 = N then 1 else 0)))), sH g cu sr sc N (if 0 ≤ spSc c b 6 0 0 then spSc c b 6 0 0 else -1 - spSc c b 6 0 0) x') := by
  obtain ⟨g1, g2, g3, g4⟩ := gdS_T V.2.2.2.2.2.2.2.2.2.2.2
  obtain ⟨x', e⟩ := Sk_all X V 6 m 0 0 0 x (by omega) (by omega) g1 g2 (MkB_N 6 0 g4) (by omega) (by omega)
  have B := spSc_b (c := c) X.2.2.2.2.2.1 6 0 0 (by omega) (by omega)
  have n64 := X.2.2.2.2.1
  refine ⟨x', ?_⟩
  rw [StreamReader_readWhole_F]
  unfold StreamReader_readWhole_b
  rw [sH_sron, pl_ci (show ax_F (m + 22) 111 [ax_A (some sr), ax_I 0, ax_I 0] (sH g cu sr sc N 0 x) = _ from e)]
  generalize spSc c b 6 0 0 = y at *
  by_cases c1 : 0 ≤ y
  · have b1 := B.1 c1
    rw [if_pos c1, if_pos c1, if_neg (show ¬ Int32.ofInt 1 = 0 from by decide), sH_gr0, Option.bind_some, sH_cuon X.1, pl_ci (St_end X c1 (by omega))]
    by_cases c2 : y = N
    · rw [if_neg (show ¬ y < (N : Int) by omega), if_neg (show ¬ Int32.ofInt 1 = 0 from by decide), if_pos c2]
      exact za_rz (v := 1) (Or.inr rfl)
    · rw [if_pos (show y < (N : Int) by omega), if_pos (show Int32.ofInt 0 = 0 from rfl), if_neg c2]
      exact za_rz (v := 0) (Or.inl rfl)
  · rw [if_neg c1, if_neg c1, if_pos (show Int32.ofInt 0 = 0 from rfl), if_neg (show ¬ y = N by omega)]
    exact za_rz (v := 0) (Or.inl rfl)
theorem StreamReader_init_e {m a : Nat} {x1 x2 : Option Nat} {h : ax_Hp} {w0 w1 w2 : ax_T} (ha : h.2.2 a = some (.inl (5, [w0, w1, w2]))) : ax_F (m + 1) 109 [ax_A (some a), ax_A x1, ax_A x2] h = some (.inl none, ax_set h a (.inl (5, [ax_A x1, ax_A x2, w2]))) := by
  rw [StreamReader_init_F]
  unfold StreamReader_init_b
  rw [pl_pf ha (Nat.le_of_ble_eq_true rfl), Option.bind_some, pl_pf pl_set (Nat.le_of_ble_eq_true rfl), Option.bind_some, ax_set_set]
  rfl
theorem Resolver_init_e {m a : Nat} {x1 x2 x3 x4 x5 : Option Nat} {h : ax_Hp} {w0 w1 w2 w3 w4 w5 : ax_T} (ha : h.2.2 a = some (.inl (1, [w0, w1, w2, w3, w4, w5]))) (hl : a ≤ h.1) (hc : h.1 + 1 ≤ ax_CM) (hs : h.2.1 + 3 ≤ ax_SM) : ax_F (m + 2) 123 [ax_A (some a), ax_A x1, ax_A x2, ax_A x3, ax_A x4, ax_A x5] h = some (.inl none, hN (ax_set h a (.inl (1, [ax_A x1, ax_A (some (h.1 + 1)), ax_A x2, ax_A x3, ax_A x4, ax_A x5]))) 3 (.inl (5, [ax_A x1, ax_A x2, ax_L 0]))) := by
  rw [Resolver_init_F]
  unfold Resolver_init_b
  rw [pl_pf ha (Nat.le_of_ble_eq_true rfl), Option.bind_some, pl_pf pl_set (Nat.le_of_ble_eq_true rfl), Option.bind_some, ax_set_set, pl_pf pl_set (Nat.le_of_ble_eq_true rfl), Option.bind_some, ax_set_set, pl_pf pl_set (Nat.le_of_ble_eq_true rfl), Option.bind_some, ax_set_set, pl_pf pl_set (Nat.le_of_ble_eq_true rfl), Option.bind_some, ax_set_set]
  obtain ⟨g, hg⟩ : ∃ g, g = ax_set h a (.inl (1, [ax_A x1, w1, ax_A x2, ax_A x3, ax_A x4, ax_A x5])) := ⟨_, rfl⟩
  have e1 : g.1 = h.1 := by rw [hg]; rfl
  have e2 : g.2.1 = h.2.1 := by rw [hg]; rfl
  have e3 : g.2.2 a = some (.inl (1, [ax_A x1, w1, ax_A x2, ax_A x3, ax_A x4, ax_A x5])) := by rw [hg]; exact pl_set
  refine Eq.trans (show _ = ax_nw (ax_new g 5 [ax_A none, ax_A none, ax_L 0]) fun a6 h7 => ax_cv (ax_F (m + 1) 109 [ax_A (some a6), ax_A x1, ax_A x2] h7) fun h8 => (ax_pf h8 (some a) 1 1 (ax_A (some a6))).bind fun h10 => ax_rv h10 from by rw [hg]; rfl) ?_
  rw [ax_new_e (by omega) (show g.2.1 + 3 ≤ _ by omega)]
  rw [pl_cv (StreamReader_init_e (w0 := ax_A none) (w1 := ax_A none) (w2 := ax_L 0) (hN_at rfl)), hN_set rfl]
  rw [pl_pf ((hN_ne (show a ≠ g.1 + 1 by omega)).trans e3) (Nat.le_of_ble_eq_true rfl), Option.bind_some, hN_sets (show a ≠ g.1 + 1 by omega), e1, hg, ax_set_set]
  rfl
/-- the heap when a stream is to be read -/
def dcH (h : ax_Hp) (N sw : Nat) : ax_Hp := hN (hN h 3 (curO N 0)) 3 (srO (h.1 + 1) sw 0)
theorem dcH_at {h : ax_Hp} {N sw q : Nat} (h0 : q ≤ h.1) : (dcH h N sw).2.2 q = h.2.2 q := by
  unfold dcH
  rw [hN_ne (show q ≠ h.1 + 1 + 1 by omega), hN_ne (show q ≠ h.1 + 1 by omega)]
theorem dcH_cu {h : ax_Hp} {N sw : Nat} : (dcH h N sw).2.2 (h.1 + 1) = some (curO N 0) := by
  unfold dcH
  exact (hN_ne (show h.1 + 1 ≠ h.1 + 1 + 1 by omega)).trans (hN_at rfl)
theorem dcH_sr {h : ax_Hp} {N sw : Nat} : (dcH h N sw).2.2 (h.1 + 2) = some (srO (h.1 + 1) sw 0) := by
  unfold dcH
  exact hN_at rfl
def deK (m o dr a2 a5 sw sd : Nat) : Int32 → ax_Hp → ax_O := fun v15 h14 =>
  if v15 = 0 then
    ax_on h14 (some a5) 0 <| ax_ci (ax_F m 27 [ax_A (some a5)] h14) fun v34 h33 =>
    (ax_pf h33 (some 1) 8 7 (ax_I v34)).bind fun h35 =>
    ax_th h35 0
  else
    (ax_gr h14 (some 1) 8 6).bind fun v16 =>
    ax_on h14 v16 2 <| ax_ci (ax_F m 10 [ax_A v16] h14) fun v18 h17 =>
    ax_nw (ax_new h17 1 [ax_A none, ax_A none, ax_A none, ax_A none, ax_A none, ax_A none]) fun a19 h20 =>
    (ax_gr h20 (some 1) 8 6).bind fun v21 =>
    (ax_gr h20 (some 1) 8 4).bind fun v22 =>
    ax_cv (ax_F m 123 [ax_A (some a19), ax_A (some a5), ax_A (some sw), ax_A (some sd), ax_A v21, ax_A v22] h20) fun h23 =>
    ax_on h23 (some a19) 1 <| ax_ci (ax_F m 124 [ax_A (some a19)] h23) fun v26 h25 =>
    if v26 = 0 then
      ax_th h25 1
    else
      (ax_gr h25 (some 1) 8 2).bind fun v27 =>
      ax_on h25 v27 2 <| ax_ci (ax_F m 10 [ax_A v27] h25) fun v29 h28 =>
      (ax_pf h28 (some 1) 8 7 (ax_I (-1))).bind fun h30 =>
      ax_on h30 (some 1) 8 <| ax_ci (ax_F m 100 [ax_A (some 1)] h30) fun v32 h31 =>
      ax_ri v32 h31
/-- what the class does before it reads a stream -/
theorem Desk_decode_pre {m sw sd o dr N : Nat} {p z w v : Int32} {h : ax_Hp} (hl : 59 ≤ h.1) (hd : h.2.2 1 = some (dkO o dr p)) (h8 : h.2.2 8 = some (rwO 9 (Int32.ofInt N))) (hv1 : ax_F (m + 1) 94 [ax_A (some 1), ax_I z, ax_I w] h = some (.inl (some (ax_A (some sw))), h)) (hv2 : ax_F (m + 1) 94 [ax_A (some 1), ax_I z, ax_I v] h = some (.inl (some (ax_A (some sd))), h)) (hc : h.1 + 2 ≤ ax_CM) (hs : h.2.1 + 6 ≤ ax_SM) : ax_F (m + 2) 108 [ax_A (some 1), ax_I z, ax_I w, ax_I v] h = ax_ci (ax_F (m + 1) 110 [ax_A (some (h.1 + 2))] (dcH h N sw)) (deK (m + 1) o dr (h.1 + 2) (h.1 + 1) sw sd) := by
  rw [Desk_decode_F]
  unfold Desk_decode_b
  rw [pl_on hd, pl_cr hv1, pl_on hd, pl_cr hv2]
  rw [ax_new_e (by omega) (show h.2.1 + 3 ≤ _ by omega)]
  rw [pl_gr (hN_ne (show 1 ≠ h.1 + 1 by omega) |>.trans hd) (v := some 8) rfl, Option.bind_some]
  rw [pl_cv (Cursor_init_e (x := ax_A none) (y := ax_I 0) (z := ax_I 0) (hN_at rfl) (hN_ne (show 8 ≠ h.1 + 1 by omega) |>.trans h8) (by omega)), hN_set rfl]
  rw [ax_new_e (show h.1 + 1 + 1 ≤ _ by omega) (show h.2.1 + 3 + 3 ≤ _ by omega)]
  rw [pl_cv (StreamReader_init_e (w0 := ax_A none) (w1 := ax_A none) (w2 := ax_L 0) (hN_at rfl)), hN_set rfl]
  exact pl_on (dcH_sr (N := N) (sw := sw))
