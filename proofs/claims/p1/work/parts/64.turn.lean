/-- the script lies where it lay; the desk and the reference are there -/
def scI (xs : List Int32) (h : ax_Hp) : Prop := h.2.2 0 = some (.inr (0, xs.map ax_I))
def obD (h : ax_Hp) : Prop := ∃ fs, h.2.2 1 = some (.inl (8, fs))
def obM (h : ax_Hp) : Prop := ∃ fs, h.2.2 24 = some (.inl (9, fs))
theorem obD_on {h : ax_Hp} (hd : obD h) (k : ax_O) : ax_on h (some 1) 8 k = k := by
  obtain ⟨fs, e⟩ := hd
  exact pl_on e
theorem obM_on {h : ax_Hp} (hd : obM h) (k : ax_O) : ax_on h (some 24) 9 k = k := by
  obtain ⟨fs, e⟩ := hd
  exact pl_on e
theorem lg_same (x : Int64) : lg_cmp x x = 0 := by
  unfold lg_cmp
  rw [if_neg (show ¬ x > x from fun c => Int64.lt_irrefl c), if_pos rfl]
theorem thr_e {m : Nat} {h : ax_Hp} {fs : List ax_T} {k : Int32} (e : h.2.2 24 = some (.inl (9, fs))) (e0 : fs[0]? = some (ax_I k)) : ax_F (m + 1) 144 [ax_A (some 24)] h = some (.inl (some (ax_I k)), h) := by
  rw [Model_thrown_F]
  unfold Model_thrown_b
  rw [pl_gi e e0]
  rfl
/-- what the turn at place i reads of the script -/
def rdI (xs : List Int32) (x4 o a b c : Int32) : Prop := ∀ g : ax_Hp, scI xs g → (∃ v, ax_len g (some 0) 0 = some v ∧ ¬ (v - 4) < x4) ∧ ax_ldi g (some 0) 0 x4 = some o ∧ ax_ldi g (some 0) 0 (x4 + 1) = some a ∧ ax_ldi g (some 0) 0 (x4 + 2) = some b ∧ ax_ldi g (some 0) 0 (x4 + 3) = some c
def lgW (a b : Int32) : Int64 := ((a.toInt64) <<< ((32 : Int32).toInt64 &&& 63)) ||| ((b.toInt64) &&& 4294967295)
theorem turn_0 {m : Nat} {xs : List Int32} {x4 o a b c : Int32} {h h1 h2 : ax_Hp} (k : Option Nat → Option Nat → Option Nat → Option Nat → Int32 → ax_Hp → ax_O) {v : Int32} (hr : rdI xs x4 o a b c) (hop : (o &&& 15).toInt = 0) (hs : scI xs h) (hd : obD h) (hc : ax_F (m + 1) 4 [ax_A (some 1), ax_L (lgW a b)] h = some (.inl (some (ax_I v)), h1)) (hs1 : scI xs h1) (hm1 : obM h1) (hm : ax_F (m + 1) 145 [ax_A (some 24), ax_L (lgW a b)] h1 = some (.inl (some (ax_I v)), h2)) : Law_law_bd23 (ax_F (m + 1)) k (some 0) (some 1) (some 24) (some 59) x4 h = k (some 0) (some 1) (some 24) (some 59) (x4 + 4) h2 := by
  obtain ⟨⟨lv, e0, e1⟩, r0, r1, r2, r3⟩ := hr h hs
  unfold Law_law_bd23
  rw [e0, Option.bind_some, if_neg e1, r0, Option.bind_some]
  rw [if_pos hop]
  rw [r1, Option.bind_some, r2, Option.bind_some]
  rw [obD_on hd]
  refine Eq.trans (pl_ci (v := v) (h := h1) hc) ?_
  obtain ⟨-, q0, q1, q2, q3⟩ := hr h1 hs1
  rw [q1, Option.bind_some, q2, Option.bind_some]
  rw [obM_on hm1]
  refine Eq.trans (pl_ci (v := v) (h := h2) hm) ?_
  rw [if_pos rfl]
  rfl
theorem turn_1 {m : Nat} {xs : List Int32} {x4 o a b c : Int32} {h h1 h2 : ax_Hp} (k : Option Nat → Option Nat → Option Nat → Option Nat → Int32 → ax_Hp → ax_O) {v : Int32} (hr : rdI xs x4 o a b c) (hop : (o &&& 15).toInt = 1) (hs : scI xs h) (hd : obD h) (hc : ax_F (m + 1) 9 [ax_A (some 1)] h = some (.inl (some (ax_I v)), h1)) (hs1 : scI xs h1) (hm1 : obM h1) (hm : ax_F (m + 1) 146 [ax_A (some 24)] h1 = some (.inl (some (ax_I v)), h2)) : Law_law_bd23 (ax_F (m + 1)) k (some 0) (some 1) (some 24) (some 59) x4 h = k (some 0) (some 1) (some 24) (some 59) (x4 + 4) h2 := by
  obtain ⟨⟨lv, e0, e1⟩, r0, r1, r2, r3⟩ := hr h hs
  unfold Law_law_bd23
  rw [e0, Option.bind_some, if_neg e1, r0, Option.bind_some]
  rw [if_neg (show ¬ (o &&& 15).toInt = 0 from by rw [hop]; decide), if_pos hop]
  rw [obD_on hd]
  rw [pl_ci hc]
  rw [obM_on hm1]
  refine Eq.trans (pl_ci (v := v) (h := h2) hm) ?_
  rw [if_pos rfl]
  rfl
theorem turn_2 {m : Nat} {xs : List Int32} {x4 o a b c : Int32} {h h1 h2 : ax_Hp} (k : Option Nat → Option Nat → Option Nat → Option Nat → Int32 → ax_Hp → ax_O) {v : Int32} (hr : rdI xs x4 o a b c) (hop : (o &&& 15).toInt = 2) (hs : scI xs h) (hd : obD h) (hc : ax_F (m + 1) 11 [ax_A (some 1), ax_L (lgW a b), ax_I c] h = some (.inl (some (ax_I v)), h1)) (hs1 : scI xs h1) (hm1 : obM h1) (hm : ax_F (m + 1) 147 [ax_A (some 24), ax_L (lgW a b), ax_I c] h1 = some (.inl (some (ax_I v)), h2)) : Law_law_bd23 (ax_F (m + 1)) k (some 0) (some 1) (some 24) (some 59) x4 h = k (some 0) (some 1) (some 24) (some 59) (x4 + 4) h2 := by
  obtain ⟨⟨lv, e0, e1⟩, r0, r1, r2, r3⟩ := hr h hs
  unfold Law_law_bd23
  rw [e0, Option.bind_some, if_neg e1, r0, Option.bind_some]
  rw [if_neg (show ¬ (o &&& 15).toInt = 0 from by rw [hop]; decide), if_neg (show ¬ (o &&& 15).toInt = 1 from by rw [hop]; decide), if_pos hop]
  rw [r1, Option.bind_some, r2, Option.bind_some, r3, Option.bind_some]
  rw [obD_on hd]
  refine Eq.trans (pl_ci (v := v) (h := h1) hc) ?_
  obtain ⟨-, q0, q1, q2, q3⟩ := hr h1 hs1
  rw [q1, Option.bind_some, q2, Option.bind_some, q3, Option.bind_some]
  rw [obM_on hm1]
  refine Eq.trans (pl_ci (v := v) (h := h2) hm) ?_
  rw [if_pos rfl]
  rfl
theorem turn_3 {m : Nat} {xs : List Int32} {x4 o a b c : Int32} {h h1 h2 : ax_Hp} (k : Option Nat → Option Nat → Option Nat → Option Nat → Int32 → ax_Hp → ax_O) {v : Int32} (hr : rdI xs x4 o a b c) (hop : (o &&& 15).toInt = 3) (hs : scI xs h) (hd : obD h) (hc : ax_F (m + 1) 12 [ax_A (some 1)] h = some (.inl (some (ax_I v)), h1)) (hs1 : scI xs h1) (hm1 : obM h1) (hm : ax_F (m + 1) 148 [ax_A (some 24)] h1 = some (.inl (some (ax_I v)), h2)) : Law_law_bd23 (ax_F (m + 1)) k (some 0) (some 1) (some 24) (some 59) x4 h = k (some 0) (some 1) (some 24) (some 59) (x4 + 4) h2 := by
  obtain ⟨⟨lv, e0, e1⟩, r0, r1, r2, r3⟩ := hr h hs
  unfold Law_law_bd23
  rw [e0, Option.bind_some, if_neg e1, r0, Option.bind_some]
  rw [if_neg (show ¬ (o &&& 15).toInt = 0 from by rw [hop]; decide), if_neg (show ¬ (o &&& 15).toInt = 1 from by rw [hop]; decide), if_neg (show ¬ (o &&& 15).toInt = 2 from by rw [hop]; decide), if_pos hop]
  rw [obD_on hd]
  rw [pl_ci hc]
  rw [obM_on hm1]
  refine Eq.trans (pl_ci (v := v) (h := h2) hm) ?_
  rw [if_pos rfl]
  rfl
theorem turn_12 {m : Nat} {xs : List Int32} {x4 o a b c : Int32} {h h1 h2 : ax_Hp} (k : Option Nat → Option Nat → Option Nat → Option Nat → Int32 → ax_Hp → ax_O) {v : Int32} (hr : rdI xs x4 o a b c) (hop : (o &&& 15).toInt = 12) (hs : scI xs h) (hd : obD h) (hc : ax_F (m + 1) 13 [ax_A (some 1)] h = some (.inl (some (ax_I v)), h1)) (hs1 : scI xs h1) (hm1 : obM h1) (hm : ax_F (m + 1) 208 [ax_A (some 24)] h1 = some (.inl (some (ax_I v)), h2)) : Law_law_bd23 (ax_F (m + 1)) k (some 0) (some 1) (some 24) (some 59) x4 h = k (some 0) (some 1) (some 24) (some 59) (x4 + 4) h2 := by
  obtain ⟨⟨lv, e0, e1⟩, r0, r1, r2, r3⟩ := hr h hs
  unfold Law_law_bd23
  rw [e0, Option.bind_some, if_neg e1, r0, Option.bind_some]
  rw [if_neg (show ¬ (o &&& 15).toInt = 0 from by rw [hop]; decide), if_neg (show ¬ (o &&& 15).toInt = 1 from by rw [hop]; decide), if_neg (show ¬ (o &&& 15).toInt = 2 from by rw [hop]; decide), if_neg (show ¬ (o &&& 15).toInt = 3 from by rw [hop]; decide), if_neg (show ¬ (o &&& 15).toInt = 4 from by rw [hop]; decide), if_neg (show ¬ (o &&& 15).toInt = 5 from by rw [hop]; decide), if_neg (show ¬ (o &&& 15).toInt = 6 from by rw [hop]; decide), if_neg (show ¬ (o &&& 15).toInt = 7 from by rw [hop]; decide), if_neg (show ¬ (o &&& 15).toInt = 8 from by rw [hop]; decide), if_neg (show ¬ (o &&& 15).toInt = 9 from by rw [hop]; decide), if_neg (show ¬ (o &&& 15).toInt = 10 from by rw [hop]; decide), if_neg (show ¬ (o &&& 15).toInt = 11 from by rw [hop]; decide), if_pos hop]
  rw [obD_on hd]
  rw [pl_ci hc]
  rw [obM_on hm1]
  refine Eq.trans (pl_ci (v := v) (h := h2) hm) ?_
  rw [if_pos rfl]
  rfl
theorem turn_4 {m : Nat} {xs : List Int32} {x4 o a b c : Int32} {h h1 h2 : ax_Hp} (k : Option Nat → Option Nat → Option Nat → Option Nat → Int32 → ax_Hp → ax_O) {fs : List ax_T} {kk : Int32} (hr : rdI xs x4 o a b c) (hop : (o &&& 15).toInt = 4) (hs : scI xs h) (hc : ax_F (m + 1) 14 [ax_A (some 1), ax_I a, ax_I b] h = some (.inl (some (ax_I kk)), h1)) (hs1 : scI xs h1) (hm1 : obM h1) (hm : ax_F (m + 1) 149 [ax_A (some 24), ax_I a, ax_I b] h1 = some (.inl none, h2)) (ht : h2.2.2 24 = some (.inl (9, fs))) (ht0 : fs[0]? = some (ax_I kk)) : Law_law_bd23 (ax_F (m + 1)) k (some 0) (some 1) (some 24) (some 59) x4 h = k (some 0) (some 1) (some 24) (some 59) (x4 + 4) h2 := by
  obtain ⟨⟨lv, e0, e1⟩, r0, r1, r2, r3⟩ := hr h hs
  unfold Law_law_bd23
  rw [e0, Option.bind_some, if_neg e1, r0, Option.bind_some]
  rw [if_neg (show ¬ (o &&& 15).toInt = 0 from by rw [hop]; decide), if_neg (show ¬ (o &&& 15).toInt = 1 from by rw [hop]; decide), if_neg (show ¬ (o &&& 15).toInt = 2 from by rw [hop]; decide), if_neg (show ¬ (o &&& 15).toInt = 3 from by rw [hop]; decide), if_pos hop]
  rw [r1, Option.bind_some, r2, Option.bind_some]
  obtain ⟨-, q0, q1, q2, q3⟩ := hr h1 hs1
  refine Eq.trans (pl_ci (v := kk) (h := h1) hc) ?_
  rw [q1, Option.bind_some, q2, Option.bind_some]
  rw [obM_on hm1]
  refine Eq.trans (pl_cv (h := h2) hm) ?_
  rw [obM_on ⟨fs, ht⟩]
  refine Eq.trans (pl_ci (v := kk) (h := h2) (thr_e ht ht0)) ?_
  rw [if_pos rfl]
  rfl
theorem turn_5 {m : Nat} {xs : List Int32} {x4 o a b c : Int32} {h h1 h2 : ax_Hp} (k : Option Nat → Option Nat → Option Nat → Option Nat → Int32 → ax_Hp → ax_O) {fs : List ax_T} {kk : Int32} {y : Int32} (hr : rdI xs x4 o a b c) (hop : (o &&& 15).toInt = 5) (hs : scI xs h) (hc : ax_F (m + 1) 18 [ax_A (some 1), ax_I a, ax_A (some 59)] h = some (.inl (some (ax_I kk)), h1)) (hs1 : scI xs h1) (hm1 : obM h1) (hm : ax_F (m + 1) 151 [ax_A (some 24), ax_I a] h1 = some (.inl (some (ax_I y)), h2)) (ht : h2.2.2 24 = some (.inl (9, fs))) (ht0 : fs[0]? = some (ax_I kk)) (ho : kk = 0 → h2.2.2 59 = some (.inr (2, [ax_L y.toInt64]))) : Law_law_bd23 (ax_F (m + 1)) k (some 0) (some 1) (some 24) (some 59) x4 h = k (some 0) (some 1) (some 24) (some 59) (x4 + 4) h2 := by
  obtain ⟨⟨lv, e0, e1⟩, r0, r1, r2, r3⟩ := hr h hs
  unfold Law_law_bd23
  rw [e0, Option.bind_some, if_neg e1, r0, Option.bind_some]
  rw [if_neg (show ¬ (o &&& 15).toInt = 0 from by rw [hop]; decide), if_neg (show ¬ (o &&& 15).toInt = 1 from by rw [hop]; decide), if_neg (show ¬ (o &&& 15).toInt = 2 from by rw [hop]; decide), if_neg (show ¬ (o &&& 15).toInt = 3 from by rw [hop]; decide), if_neg (show ¬ (o &&& 15).toInt = 4 from by rw [hop]; decide), if_pos hop]
  rw [r1, Option.bind_some]
  obtain ⟨-, q0, q1, q2, q3⟩ := hr h1 hs1
  refine Eq.trans (pl_ci (v := kk) (h := h1) hc) ?_
  rw [q1, Option.bind_some]
  rw [obM_on hm1]
  refine Eq.trans (pl_ci (v := y) (h := h2) hm) ?_
  rw [obM_on ⟨fs, ht⟩]
  refine Eq.trans (pl_ci (v := kk) (h := h2) (thr_e ht ht0)) ?_
  rw [if_pos rfl]
  by_cases ck : kk = 0
  · rw [if_pos ck]
    have e := ho ck
    rw [show ax_ldl h2 (some 59) 2 0 = some (y.toInt64) from by unfold ax_ldl ax_ld; rw [pl_arr e]; rfl, Option.bind_some, if_pos (lg_same _)]
    rfl
  · rw [if_neg ck]
    rfl
theorem turn_6 {m : Nat} {xs : List Int32} {x4 o a b c : Int32} {h h1 h2 : ax_Hp} (k : Option Nat → Option Nat → Option Nat → Option Nat → Int32 → ax_Hp → ax_O) {fs : List ax_T} {kk : Int32} {y : Int32} (hr : rdI xs x4 o a b c) (hop : (o &&& 15).toInt = 6) (hs : scI xs h) (hc : ax_F (m + 1) 89 [ax_A (some 1), ax_I a, ax_A (some 59)] h = some (.inl (some (ax_I kk)), h1)) (hs1 : scI xs h1) (hm1 : obM h1) (hm : ax_F (m + 1) 185 [ax_A (some 24), ax_I a] h1 = some (.inl (some (ax_I y)), h2)) (ht : h2.2.2 24 = some (.inl (9, fs))) (ht0 : fs[0]? = some (ax_I kk)) (ho : kk = 0 → h2.2.2 59 = some (.inr (2, [ax_L y.toInt64]))) : Law_law_bd23 (ax_F (m + 1)) k (some 0) (some 1) (some 24) (some 59) x4 h = k (some 0) (some 1) (some 24) (some 59) (x4 + 4) h2 := by
  obtain ⟨⟨lv, e0, e1⟩, r0, r1, r2, r3⟩ := hr h hs
  unfold Law_law_bd23
  rw [e0, Option.bind_some, if_neg e1, r0, Option.bind_some]
  rw [if_neg (show ¬ (o &&& 15).toInt = 0 from by rw [hop]; decide), if_neg (show ¬ (o &&& 15).toInt = 1 from by rw [hop]; decide), if_neg (show ¬ (o &&& 15).toInt = 2 from by rw [hop]; decide), if_neg (show ¬ (o &&& 15).toInt = 3 from by rw [hop]; decide), if_neg (show ¬ (o &&& 15).toInt = 4 from by rw [hop]; decide), if_neg (show ¬ (o &&& 15).toInt = 5 from by rw [hop]; decide), if_pos hop]
  rw [r1, Option.bind_some]
  obtain ⟨-, q0, q1, q2, q3⟩ := hr h1 hs1
  refine Eq.trans (pl_ci (v := kk) (h := h1) hc) ?_
  rw [q1, Option.bind_some]
  rw [obM_on hm1]
  refine Eq.trans (pl_ci (v := y) (h := h2) hm) ?_
  rw [obM_on ⟨fs, ht⟩]
  refine Eq.trans (pl_ci (v := kk) (h := h2) (thr_e ht ht0)) ?_
  rw [if_pos rfl]
  by_cases ck : kk = 0
  · rw [if_pos ck]
    have e := ho ck
    rw [show ax_ldl h2 (some 59) 2 0 = some (y.toInt64) from by unfold ax_ldl ax_ld; rw [pl_arr e]; rfl, Option.bind_some, if_pos (lg_same _)]
    rfl
  · rw [if_neg ck]
    rfl
theorem turn_7 {m : Nat} {xs : List Int32} {x4 o a b c : Int32} {h h1 h2 : ax_Hp} (k : Option Nat → Option Nat → Option Nat → Option Nat → Int32 → ax_Hp → ax_O) {fs : List ax_T} {kk : Int32} {y : Int32} (hr : rdI xs x4 o a b c) (hop : (o &&& 15).toInt = 7) (hs : scI xs h) (hc : ax_F (m + 1) 92 [ax_A (some 1), ax_I a, ax_I b, ax_I c, ax_A (some 59)] h = some (.inl (some (ax_I kk)), h1)) (hs1 : scI xs h1) (hm1 : obM h1) (hm : ax_F (m + 1) 186 [ax_A (some 24), ax_I a, ax_I b, ax_I c] h1 = some (.inl (some (ax_I y)), h2)) (ht : h2.2.2 24 = some (.inl (9, fs))) (ht0 : fs[0]? = some (ax_I kk)) (ho : kk = 0 → h2.2.2 59 = some (.inr (2, [ax_L (if y = 0 then 0 else 1)]))) : Law_law_bd23 (ax_F (m + 1)) k (some 0) (some 1) (some 24) (some 59) x4 h = k (some 0) (some 1) (some 24) (some 59) (x4 + 4) h2 := by
  obtain ⟨⟨lv, e0, e1⟩, r0, r1, r2, r3⟩ := hr h hs
  unfold Law_law_bd23
  rw [e0, Option.bind_some, if_neg e1, r0, Option.bind_some]
  rw [if_neg (show ¬ (o &&& 15).toInt = 0 from by rw [hop]; decide), if_neg (show ¬ (o &&& 15).toInt = 1 from by rw [hop]; decide), if_neg (show ¬ (o &&& 15).toInt = 2 from by rw [hop]; decide), if_neg (show ¬ (o &&& 15).toInt = 3 from by rw [hop]; decide), if_neg (show ¬ (o &&& 15).toInt = 4 from by rw [hop]; decide), if_neg (show ¬ (o &&& 15).toInt = 5 from by rw [hop]; decide), if_neg (show ¬ (o &&& 15).toInt = 6 from by rw [hop]; decide), if_pos hop]
  rw [r1, Option.bind_some, r2, Option.bind_some, r3, Option.bind_some]
  obtain ⟨-, q0, q1, q2, q3⟩ := hr h1 hs1
  refine Eq.trans (pl_ci (v := kk) (h := h1) hc) ?_
  rw [q1, Option.bind_some, q2, Option.bind_some, q3, Option.bind_some]
  rw [obM_on hm1]
  refine Eq.trans (pl_ci (v := y) (h := h2) hm) ?_
  rw [obM_on ⟨fs, ht⟩]
  refine Eq.trans (pl_ci (v := kk) (h := h2) (thr_e ht ht0)) ?_
  rw [if_pos rfl]
  by_cases ck : kk = 0
  · rw [if_pos ck]
    have e := ho ck
    rw [show ax_ldl h2 (some 59) 2 0 = some (if y = 0 then 0 else 1) from by unfold ax_ldl ax_ld; rw [pl_arr e]; rfl, Option.bind_some]
    by_cases cy : y = 0
    · rw [if_pos cy, if_pos cy]
      exact if_pos (lg_same _)
    · rw [if_neg cy, if_neg cy]
      exact if_pos (lg_same _)
  · rw [if_neg ck]
    rfl
theorem turn_8 {m : Nat} {xs : List Int32} {x4 o a b c : Int32} {h h1 h2 : ax_Hp} (k : Option Nat → Option Nat → Option Nat → Option Nat → Int32 → ax_Hp → ax_O) {fs : List ax_T} {kk : Int32} {y : Int32} (hr : rdI xs x4 o a b c) (hop : (o &&& 15).toInt = 8) (hs : scI xs h) (hc : ax_F (m + 1) 96 [ax_A (some 1), ax_I a, ax_I b, ax_I (if c = 0 then 0 else 1), ax_A (some 59)] h = some (.inl (some (ax_I kk)), h1)) (hs1 : scI xs h1) (hm1 : obM h1) (hm : ax_F (m + 1) 188 [ax_A (some 24), ax_I a, ax_I b, ax_I (if c = 0 then 0 else 1)] h1 = some (.inl (some (ax_I y)), h2)) (ht : h2.2.2 24 = some (.inl (9, fs))) (ht0 : fs[0]? = some (ax_I kk)) (ho : kk = 0 → h2.2.2 59 = some (.inr (2, [ax_L y.toInt64]))) : Law_law_bd23 (ax_F (m + 1)) k (some 0) (some 1) (some 24) (some 59) x4 h = k (some 0) (some 1) (some 24) (some 59) (x4 + 4) h2 := by
  obtain ⟨⟨lv, e0, e1⟩, r0, r1, r2, r3⟩ := hr h hs
  unfold Law_law_bd23
  rw [e0, Option.bind_some, if_neg e1, r0, Option.bind_some]
  rw [if_neg (show ¬ (o &&& 15).toInt = 0 from by rw [hop]; decide), if_neg (show ¬ (o &&& 15).toInt = 1 from by rw [hop]; decide), if_neg (show ¬ (o &&& 15).toInt = 2 from by rw [hop]; decide), if_neg (show ¬ (o &&& 15).toInt = 3 from by rw [hop]; decide), if_neg (show ¬ (o &&& 15).toInt = 4 from by rw [hop]; decide), if_neg (show ¬ (o &&& 15).toInt = 5 from by rw [hop]; decide), if_neg (show ¬ (o &&& 15).toInt = 6 from by rw [hop]; decide), if_neg (show ¬ (o &&& 15).toInt = 7 from by rw [hop]; decide), if_pos hop]
  rw [r1, Option.bind_some, r2, Option.bind_some, r3, Option.bind_some]
  obtain ⟨-, q0, q1, q2, q3⟩ := hr h1 hs1
  refine Eq.trans (b := Law_law_jn534 (ax_F (m + 1)) k (some 0) (some 1) (some 24) (some 59) x4 (if c = 0 then 0 else 1) b a (some 1) h) (by split <;> rfl) ?_
  unfold Law_law_jn534
  refine Eq.trans (pl_ci (v := kk) (h := h1) hc) ?_
  rw [q1, Option.bind_some, q2, Option.bind_some, q3, Option.bind_some]
  refine Eq.trans (b := Law_law_jn567 (ax_F (m + 1)) k (some 0) (some 1) (some 24) (some 59) x4 kk (if c = 0 then 0 else 1) b a (some 24) h1) (by split <;> rfl) ?_
  unfold Law_law_jn567
  rw [obM_on hm1]
  refine Eq.trans (pl_ci (v := y) (h := h2) hm) ?_
  rw [obM_on ⟨fs, ht⟩]
  refine Eq.trans (pl_ci (v := kk) (h := h2) (thr_e ht ht0)) ?_
  rw [if_pos rfl]
  by_cases ck : kk = 0
  · rw [if_pos ck]
    have e := ho ck
    rw [show ax_ldl h2 (some 59) 2 0 = some (y.toInt64) from by unfold ax_ldl ax_ld; rw [pl_arr e]; rfl, Option.bind_some, if_pos (lg_same _)]
    rfl
  · rw [if_neg ck]
    rfl
theorem turn_9 {m : Nat} {xs : List Int32} {x4 o a b c : Int32} {h h1 h2 : ax_Hp} (k : Option Nat → Option Nat → Option Nat → Option Nat → Int32 → ax_Hp → ax_O) {fs : List ax_T} {kk : Int32} {y : Int64} (hr : rdI xs x4 o a b c) (hop : (o &&& 15).toInt = 9) (hs : scI xs h) (hc : ax_F (m + 1) 101 [ax_A (some 1), ax_I a, ax_I b, ax_A (some 59)] h = some (.inl (some (ax_I kk)), h1)) (hs1 : scI xs h1) (hm1 : obM h1) (hm : ax_F (m + 1) 191 [ax_A (some 24), ax_I a, ax_I b] h1 = some (.inl (some (ax_L y)), h2)) (ht : h2.2.2 24 = some (.inl (9, fs))) (ht0 : fs[0]? = some (ax_I kk)) (ho : kk = 0 → h2.2.2 59 = some (.inr (2, [ax_L y]))) : Law_law_bd23 (ax_F (m + 1)) k (some 0) (some 1) (some 24) (some 59) x4 h = k (some 0) (some 1) (some 24) (some 59) (x4 + 4) h2 := by
  obtain ⟨⟨lv, e0, e1⟩, r0, r1, r2, r3⟩ := hr h hs
  unfold Law_law_bd23
  rw [e0, Option.bind_some, if_neg e1, r0, Option.bind_some]
  rw [if_neg (show ¬ (o &&& 15).toInt = 0 from by rw [hop]; decide), if_neg (show ¬ (o &&& 15).toInt = 1 from by rw [hop]; decide), if_neg (show ¬ (o &&& 15).toInt = 2 from by rw [hop]; decide), if_neg (show ¬ (o &&& 15).toInt = 3 from by rw [hop]; decide), if_neg (show ¬ (o &&& 15).toInt = 4 from by rw [hop]; decide), if_neg (show ¬ (o &&& 15).toInt = 5 from by rw [hop]; decide), if_neg (show ¬ (o &&& 15).toInt = 6 from by rw [hop]; decide), if_neg (show ¬ (o &&& 15).toInt = 7 from by rw [hop]; decide), if_neg (show ¬ (o &&& 15).toInt = 8 from by rw [hop]; decide), if_pos hop]
  rw [r1, Option.bind_some, r2, Option.bind_some]
  obtain ⟨-, q0, q1, q2, q3⟩ := hr h1 hs1
  refine Eq.trans (pl_ci (v := kk) (h := h1) hc) ?_
  rw [q1, Option.bind_some, q2, Option.bind_some]
  rw [obM_on hm1]
  refine Eq.trans (pl_cl (v := y) (h := h2) hm) ?_
  rw [obM_on ⟨fs, ht⟩]
  refine Eq.trans (pl_ci (v := kk) (h := h2) (thr_e ht ht0)) ?_
  rw [if_pos rfl]
  by_cases ck : kk = 0
  · rw [if_pos ck]
    have e := ho ck
    rw [show ax_ldl h2 (some 59) 2 0 = some (y) from by unfold ax_ldl ax_ld; rw [pl_arr e]; rfl, Option.bind_some, if_pos (lg_same _)]
    rfl
  · rw [if_neg ck]
    rfl
theorem turn_10 {m : Nat} {xs : List Int32} {x4 o a b c : Int32} {h h1 h2 : ax_Hp} (k : Option Nat → Option Nat → Option Nat → Option Nat → Int32 → ax_Hp → ax_O) {fs : List ax_T} {kk : Int32} {y : Int32} (hr : rdI xs x4 o a b c) (hop : (o &&& 15).toInt = 10) (hs : scI xs h) (hc : ax_F (m + 1) 104 [ax_A (some 1), ax_I a, ax_I b, ax_A (some 59)] h = some (.inl (some (ax_I kk)), h1)) (hs1 : scI xs h1) (hm1 : obM h1) (hm : ax_F (m + 1) 192 [ax_A (some 24), ax_I a, ax_I b] h1 = some (.inl (some (ax_I y)), h2)) (ht : h2.2.2 24 = some (.inl (9, fs))) (ht0 : fs[0]? = some (ax_I kk)) (ho : kk = 0 → h2.2.2 59 = some (.inr (2, [ax_L y.toInt64]))) : Law_law_bd23 (ax_F (m + 1)) k (some 0) (some 1) (some 24) (some 59) x4 h = k (some 0) (some 1) (some 24) (some 59) (x4 + 4) h2 := by
  obtain ⟨⟨lv, e0, e1⟩, r0, r1, r2, r3⟩ := hr h hs
  unfold Law_law_bd23
  rw [e0, Option.bind_some, if_neg e1, r0, Option.bind_some]
  rw [if_neg (show ¬ (o &&& 15).toInt = 0 from by rw [hop]; decide), if_neg (show ¬ (o &&& 15).toInt = 1 from by rw [hop]; decide), if_neg (show ¬ (o &&& 15).toInt = 2 from by rw [hop]; decide), if_neg (show ¬ (o &&& 15).toInt = 3 from by rw [hop]; decide), if_neg (show ¬ (o &&& 15).toInt = 4 from by rw [hop]; decide), if_neg (show ¬ (o &&& 15).toInt = 5 from by rw [hop]; decide), if_neg (show ¬ (o &&& 15).toInt = 6 from by rw [hop]; decide), if_neg (show ¬ (o &&& 15).toInt = 7 from by rw [hop]; decide), if_neg (show ¬ (o &&& 15).toInt = 8 from by rw [hop]; decide), if_neg (show ¬ (o &&& 15).toInt = 9 from by rw [hop]; decide), if_pos hop]
  rw [r1, Option.bind_some, r2, Option.bind_some]
  obtain ⟨-, q0, q1, q2, q3⟩ := hr h1 hs1
  refine Eq.trans (pl_ci (v := kk) (h := h1) hc) ?_
  rw [q1, Option.bind_some, q2, Option.bind_some]
  rw [obM_on hm1]
  refine Eq.trans (pl_ci (v := y) (h := h2) hm) ?_
  rw [obM_on ⟨fs, ht⟩]
  refine Eq.trans (pl_ci (v := kk) (h := h2) (thr_e ht ht0)) ?_
  rw [if_pos rfl]
  by_cases ck : kk = 0
  · rw [if_pos ck]
    have e := ho ck
    rw [show ax_ldl h2 (some 59) 2 0 = some (y.toInt64) from by unfold ax_ldl ax_ld; rw [pl_arr e]; rfl, Option.bind_some, if_pos (lg_same _)]
    rfl
  · rw [if_neg ck]
    rfl
theorem turn_11 {m : Nat} {xs : List Int32} {x4 o a b c : Int32} {h h1 h2 : ax_Hp} (k : Option Nat → Option Nat → Option Nat → Option Nat → Int32 → ax_Hp → ax_O) {fs : List ax_T} {kk : Int32} {y : Int32} (hr : rdI xs x4 o a b c) (hop : (o &&& 15).toInt = 11) (hs : scI xs h) (hc : ax_F (m + 1) 107 [ax_A (some 1), ax_I a, ax_I b, ax_I c, ax_A (some 59)] h = some (.inl (some (ax_I kk)), h1)) (hs1 : scI xs h1) (hm1 : obM h1) (hm : ax_F (m + 1) 193 [ax_A (some 24), ax_I a, ax_I b, ax_I c] h1 = some (.inl (some (ax_I y)), h2)) (ht : h2.2.2 24 = some (.inl (9, fs))) (ht0 : fs[0]? = some (ax_I kk)) (ho : kk = 0 → h2.2.2 59 = some (.inr (2, [ax_L y.toInt64]))) : Law_law_bd23 (ax_F (m + 1)) k (some 0) (some 1) (some 24) (some 59) x4 h = k (some 0) (some 1) (some 24) (some 59) (x4 + 4) h2 := by
  obtain ⟨⟨lv, e0, e1⟩, r0, r1, r2, r3⟩ := hr h hs
  unfold Law_law_bd23
  rw [e0, Option.bind_some, if_neg e1, r0, Option.bind_some]
  rw [if_neg (show ¬ (o &&& 15).toInt = 0 from by rw [hop]; decide), if_neg (show ¬ (o &&& 15).toInt = 1 from by rw [hop]; decide), if_neg (show ¬ (o &&& 15).toInt = 2 from by rw [hop]; decide), if_neg (show ¬ (o &&& 15).toInt = 3 from by rw [hop]; decide), if_neg (show ¬ (o &&& 15).toInt = 4 from by rw [hop]; decide), if_neg (show ¬ (o &&& 15).toInt = 5 from by rw [hop]; decide), if_neg (show ¬ (o &&& 15).toInt = 6 from by rw [hop]; decide), if_neg (show ¬ (o &&& 15).toInt = 7 from by rw [hop]; decide), if_neg (show ¬ (o &&& 15).toInt = 8 from by rw [hop]; decide), if_neg (show ¬ (o &&& 15).toInt = 9 from by rw [hop]; decide), if_neg (show ¬ (o &&& 15).toInt = 10 from by rw [hop]; decide), if_pos hop]
  rw [r1, Option.bind_some, r2, Option.bind_some, r3, Option.bind_some]
  obtain ⟨-, q0, q1, q2, q3⟩ := hr h1 hs1
  refine Eq.trans (pl_ci (v := kk) (h := h1) hc) ?_
  rw [q1, Option.bind_some, q2, Option.bind_some, q3, Option.bind_some]
  rw [obM_on hm1]
  refine Eq.trans (pl_ci (v := y) (h := h2) hm) ?_
  rw [obM_on ⟨fs, ht⟩]
  refine Eq.trans (pl_ci (v := kk) (h := h2) (thr_e ht ht0)) ?_
  rw [if_pos rfl]
  by_cases ck : kk = 0
  · rw [if_pos ck]
    have e := ho ck
    rw [show ax_ldl h2 (some 59) 2 0 = some (y.toInt64) from by unfold ax_ldl ax_ld; rw [pl_arr e]; rfl, Option.bind_some, if_pos (lg_same _)]
    rfl
  · rw [if_neg ck]
    rfl
theorem turn_13 {m : Nat} {xs : List Int32} {x4 o a b c : Int32} {h h1 h2 : ax_Hp} (k : Option Nat → Option Nat → Option Nat → Option Nat → Int32 → ax_Hp → ax_O) {fs : List ax_T} {kk : Int32} {y : Int32} (hr : rdI xs x4 o a b c) (hop : (o &&& 15).toInt = 13) (hs : scI xs h) (hc : ax_F (m + 1) 141 [ax_A (some 1), ax_I a, ax_A (some 59)] h = some (.inl (some (ax_I kk)), h1)) (hs1 : scI xs h1) (hm1 : obM h1) (hm : ax_F (m + 1) 209 [ax_A (some 24), ax_I a] h1 = some (.inl (some (ax_I y)), h2)) (ht : h2.2.2 24 = some (.inl (9, fs))) (ht0 : fs[0]? = some (ax_I kk)) (ho : kk = 0 → h2.2.2 59 = some (.inr (2, [ax_L y.toInt64]))) : Law_law_bd23 (ax_F (m + 1)) k (some 0) (some 1) (some 24) (some 59) x4 h = k (some 0) (some 1) (some 24) (some 59) (x4 + 4) h2 := by
  obtain ⟨⟨lv, e0, e1⟩, r0, r1, r2, r3⟩ := hr h hs
  unfold Law_law_bd23
  rw [e0, Option.bind_some, if_neg e1, r0, Option.bind_some]
  rw [if_neg (show ¬ (o &&& 15).toInt = 0 from by rw [hop]; decide), if_neg (show ¬ (o &&& 15).toInt = 1 from by rw [hop]; decide), if_neg (show ¬ (o &&& 15).toInt = 2 from by rw [hop]; decide), if_neg (show ¬ (o &&& 15).toInt = 3 from by rw [hop]; decide), if_neg (show ¬ (o &&& 15).toInt = 4 from by rw [hop]; decide), if_neg (show ¬ (o &&& 15).toInt = 5 from by rw [hop]; decide), if_neg (show ¬ (o &&& 15).toInt = 6 from by rw [hop]; decide), if_neg (show ¬ (o &&& 15).toInt = 7 from by rw [hop]; decide), if_neg (show ¬ (o &&& 15).toInt = 8 from by rw [hop]; decide), if_neg (show ¬ (o &&& 15).toInt = 9 from by rw [hop]; decide), if_neg (show ¬ (o &&& 15).toInt = 10 from by rw [hop]; decide), if_neg (show ¬ (o &&& 15).toInt = 11 from by rw [hop]; decide), if_neg (show ¬ (o &&& 15).toInt = 12 from by rw [hop]; decide), if_pos hop]
  rw [r1, Option.bind_some]
  obtain ⟨-, q0, q1, q2, q3⟩ := hr h1 hs1
  refine Eq.trans (pl_ci (v := kk) (h := h1) hc) ?_
  rw [q1, Option.bind_some]
  rw [obM_on hm1]
  refine Eq.trans (pl_ci (v := y) (h := h2) hm) ?_
  rw [obM_on ⟨fs, ht⟩]
  refine Eq.trans (pl_ci (v := kk) (h := h2) (thr_e ht ht0)) ?_
  rw [if_pos rfl]
  by_cases ck : kk = 0
  · rw [if_pos ck]
    have e := ho ck
    rw [show ax_ldl h2 (some 59) 2 0 = some (y.toInt64) from by unfold ax_ldl ax_ld; rw [pl_arr e]; rfl, Option.bind_some, if_pos (lg_same _)]
    rfl
  · rw [if_neg ck]
    rfl
