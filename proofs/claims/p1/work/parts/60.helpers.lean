theorem pl_cr_x {f : ax_O} {x : Nat × Nat} {h : ax_Hp} {k : Option Nat → ax_Hp → ax_O} (e : f = some (.inr x, h)) : ax_cr f k = some (.inr x, h) := by
  subst e; rfl
theorem pl_cx_v {f : ax_O} {v : Option ax_T} {h : ax_Hp} {k : Option ax_T → ax_Hp → ax_O} {kx : Nat → Nat → ax_Hp → ax_O} (e : f = some (.inl v, h)) : ax_cx f k kx = k v h := by
  subst e; rfl
theorem pl_cx_x {f : ax_O} {x : Nat × Nat} {h : ax_Hp} {k : Option ax_T → ax_Hp → ax_O} {kx : Nat → Nat → ax_Hp → ax_O} (e : f = some (.inr x, h)) : ax_cx f k kx = kx x.1 x.2 h := by
  subst e; rfl
theorem Desk_versions_no {m : Nat} {n : Int32} {h : ax_Hp} {fs : List ax_T} (hd : h.2.2 1 = some (.inl (8, fs))) (hn : ¬ isSub n = true) (hc : h.1 + 1 ≤ ax_CM) (hs : h.2.1 + 6 ≤ ax_SM) : ax_F (m + 2) 90 [ax_A (some 1), ax_I n] h = some (.inr (0, h.1 + 1), thr h) := by
  rw [Desk_versions_F]
  unfold Desk_versions_b
  rw [pl_on hd, pl_cr_x (Desk_subjectAt_no hn hc hs)]
theorem Desk_mode_no {m : Nat} {n x : Int32} {h : ax_Hp} {fs : List ax_T} (hd : h.2.2 1 = some (.inl (8, fs))) (hfs : fs[3]? = some (ax_A (some 14))) (hj : h.2.2 14 = some (.inr (5, sjs))) (hn : ¬ mdOk n x = true) (hc : h.1 + 1 ≤ ax_CM) (hs : h.2.1 + 6 ≤ ax_SM) : ax_F (m + 2) 15 [ax_A (some 1), ax_I n, ax_I x] h = some (.inr (0, h.1 + 1), thr h) := by
  rw [Desk_mode_F]
  unfold Desk_mode_b
  rw [pl_on hd]
  by_cases c1 : isSub n = true
  · rw [pl_cr (Desk_subjectAt_e hd hfs hj c1)]
    by_cases c2 : x < 0
    · rw [if_pos c2, ax_th_e hc hs]
    · rw [if_neg c2]
      by_cases c3 : x ≤ 6
      · exact absurd (by unfold mdOk; simp [c1, c2, Int32.not_lt.mpr c3]) hn
      · rw [if_neg c3, ax_th_e hc hs]
  · rw [pl_cr_x (Desk_subjectAt_no c1 hc hs)]
theorem Law_mode_no {m : Nat} {n x : Int32} {h : ax_Hp} {fs : List ax_T} (hd : h.2.2 1 = some (.inl (8, fs))) (hfs : fs[3]? = some (ax_A (some 14))) (hj : h.2.2 14 = some (.inr (5, sjs))) (hn : ¬ mdOk n x = true) (hc : h.1 + 1 ≤ ax_CM) (hs : h.2.1 + 6 ≤ ax_SM) : ax_F (m + 3) 14 [ax_A (some 1), ax_I n, ax_I x] h = some (.inl (some (ax_I 1)), thr h) := by
  rw [Law_mode_F]
  unfold Law_mode_b
  rw [pl_on hd, pl_cx_x (Desk_mode_no hd hfs hj hn hc hs), if_pos rfl]
  rfl
theorem Law_mode_e {m : Nat} {n x : Int32} {h : ax_Hp} {fs gs : List ax_T} (hd : h.2.2 1 = some (.inl (8, fs))) (hfs : fs[3]? = some (ax_A (some 14))) (hj : h.2.2 14 = some (.inr (5, sjs))) (hn : mdOk n x = true) (hg : h.2.2 (15 + 2 * n.toNatClampNeg) = some (.inl (6, gs))) (hl : gs.length = 3) : ax_F (m + 3) 14 [ax_A (some 1), ax_I n, ax_I x] h = some (.inl (some (ax_I 0)), ax_set h (15 + 2 * n.toNatClampNeg) (.inl (6, gs.set 2 (ax_I x)))) := by
  unfold mdOk at hn
  rw [Bool.and_eq_true, Bool.and_eq_true, Bool.not_eq_true', Bool.not_eq_true', decide_eq_false_iff_not, decide_eq_false_iff_not] at hn
  obtain ⟨⟨c1, c2⟩, c3⟩ := hn
  rw [Law_mode_F]
  unfold Law_mode_b
  rw [pl_on hd, pl_cx_v (Desk_mode_e hd hfs hj c1 hg hl c2 (Int32.not_lt.mp c3))]
  rfl
theorem Law_versions_no {m : Nat} {n : Int32} {h : ax_Hp} {fs : List ax_T} {y : Option Nat} (hd : h.2.2 1 = some (.inl (8, fs))) (hn : ¬ isSub n = true) (hc : h.1 + 1 ≤ ax_CM) (hs : h.2.1 + 6 ≤ ax_SM) : ax_F (m + 3) 89 [ax_A (some 1), ax_I n, ax_A y] h = some (.inl (some (ax_I 1)), thr h) := by
  rw [Law_versions_F]
  unfold Law_versions_b
  rw [pl_on hd, pl_cx_x (Desk_versions_no hd hn hc hs), if_pos rfl]
  rfl
theorem Law_versions_e {m : Nat} {n c : Int32} {h : ax_Hp} {fs gs : List ax_T} {w : ax_T} (hd : h.2.2 1 = some (.inl (8, fs))) (hfs : fs[3]? = some (ax_A (some 14))) (hj : h.2.2 14 = some (.inr (5, sjs))) (hn : isSub n = true) (hg : h.2.2 (15 + 2 * n.toNatClampNeg) = some (.inl (6, gs))) (hc : gs[1]? = some (ax_I c)) (ho : h.2.2 59 = some (.inr (2, [w]))) : ax_F (m + 3) 89 [ax_A (some 1), ax_I n, ax_A (some 59)] h = some (.inl (some (ax_I 0)), ax_set h 59 (.inr (2, [ax_L c.toInt64]))) := by
  rw [Law_versions_F]
  unfold Law_versions_b
  rw [pl_on hd, pl_cx_v (Desk_versions_e hd hfs hj hn hg hc)]
  show (ax_st h (some 59) 2 (Int32.ofNat 0) (ax_L c.toInt64)).bind _ = _
  rw [pl_st ho (by decide) (Nat.le_of_ble_eq_true rfl), Option.bind_some]
  rfl
theorem Law_out_no {m : Nat} {n : Int32} {h : ax_Hp} {fs : List ax_T} {r b cap : Nat} {ys : List Int32} {y : Option Nat} (hd : h.2.2 1 = some (.inl (8, fs))) (hfs : fs[5]? = some (ax_A (some r))) (R : rowIs h r b cap ys) (hcap : cap < 2147483648) (hn : n < 0 ∨ ys.length ≤ n.toNatClampNeg) (hc : h.1 + 1 ≤ ax_CM) (hs : h.2.1 + 6 ≤ ax_SM) : ax_F (m + 3) 141 [ax_A (some 1), ax_I n, ax_A y] h = some (.inl (some (ax_I 1)), thr h) := by
  rw [Law_out_F]
  unfold Law_out_b
  rw [pl_on hd, pl_cx_x (Desk_out_no hd hfs R hcap hn hc hs), if_pos rfl]
  rfl
theorem Law_out_e {m : Nat} {n v : Int32} {h : ax_Hp} {fs : List ax_T} {r b cap : Nat} {ys : List Int32} {w : ax_T} (hd : h.2.2 1 = some (.inl (8, fs))) (hfs : fs[5]? = some (ax_A (some r))) (R : rowIs h r b cap ys) (hcap : cap < 2147483648) (h0 : ¬ n < 0) (hv : ys[n.toNatClampNeg]? = some v) (ho : h.2.2 59 = some (.inr (2, [w]))) : ax_F (m + 3) 141 [ax_A (some 1), ax_I n, ax_A (some 59)] h = some (.inl (some (ax_I 0)), ax_set h 59 (.inr (2, [ax_L v.toInt64]))) := by
  rw [Law_out_F]
  unfold Law_out_b
  rw [pl_on hd, pl_cx_v (Desk_out_e hd hfs R hcap h0 hv)]
  show (ax_st h (some 59) 2 (Int32.ofNat 0) (ax_L v.toInt64)).bind _ = _
  rw [pl_st ho (by decide) (Nat.le_of_ble_eq_true rfl), Option.bind_some]
  rfl
