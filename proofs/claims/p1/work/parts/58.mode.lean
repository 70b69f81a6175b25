/-- the picture behind 'throw new E()' -/
def thr (h : ax_Hp) : ax_Hp := (h.1 + 1, h.2.1 + 6, fun q => if q = h.1 + 1 then none else h.2.2 q)
theorem thr_at {h : ax_Hp} {q : Nat} (hq : q ≤ h.1) : (thr h).2.2 q = h.2.2 q := if_neg (by omega)
theorem ax_th_e {h : ax_Hp} {k : Nat} (hc : h.1 + 1 ≤ ax_CM) (hs : h.2.1 + 6 ≤ ax_SM) : ax_th h k = some (.inr (k, h.1 + 1), thr h) := by
  unfold ax_th ax_nw ax_add
  rw [if_pos ⟨hc, hs⟩]
  rfl
def isSub (n : Int32) : Bool := !(decide (n < 0)) && !(decide (3 < n))
theorem isSub_nat {n : Int32} (h : isSub n = true) : n = Int32.ofNat n.toNatClampNeg ∧ n.toNatClampNeg < 4 := by
  unfold isSub at h
  rw [Bool.and_eq_true, Bool.not_eq_true', Bool.not_eq_true', decide_eq_false_iff_not, decide_eq_false_iff_not] at h
  have g1 : (0 : Int) ≤ n.toInt := by
    have := Int32.le_iff_toInt_le.mp (Int32.not_lt.mp h.1)
    simpa using this
  have g2 : n.toInt ≤ 3 := by
    have := Int32.le_iff_toInt_le.mp (Int32.not_lt.mp h.2)
    simpa using this
  have g3 : n.toNatClampNeg = n.toInt.toNat := rfl
  exact ⟨(Int32.ofNat_toNatClampNeg n (Int32.not_lt.mp h.1)).symm, by omega⟩
theorem lt3_iff {n : Int32} : 4 ≤ n ↔ 3 < n := by
  rw [Int32.le_iff_toInt_le, Int32.lt_iff_toInt_lt]
  have z4 : (4 : Int32).toInt = 4 := by decide
  have z3 : (3 : Int32).toInt = 3 := by decide
  omega
/-- the four subjects' cells -/
def sjs : List ax_T := [ax_A (some 15), ax_A (some 17), ax_A (some 19), ax_A (some 21)]
theorem sjs_at : ∀ k, k < 4 → sjs[k]? = some (ax_A (some (15 + 2 * k))) := by decide
theorem Desk_subjectAt_no {m : Nat} {n : Int32} {h : ax_Hp} (hn : ¬ isSub n = true) (hc : h.1 + 1 ≤ ax_CM) (hs : h.2.1 + 6 ≤ ax_SM) : ax_F (m + 1) 16 [ax_A (some 1), ax_I n] h = some (.inr (0, h.1 + 1), thr h) := by
  rw [Desk_subjectAt_F]
  unfold Desk_subjectAt_b
  by_cases c1 : n < 0
  · rw [if_pos c1, if_pos rfl, ax_th_e hc hs]
  · have c2 : 4 ≤ n := by
      refine Decidable.byContradiction fun z => hn ?_
      have z3 : ¬ 3 < n := fun q => z (lt3_iff.mpr q)
      unfold isSub
      simp [c1, z3]
    rw [if_neg c1, if_pos c2, if_pos rfl, ax_th_e hc hs]
theorem Desk_subjectAt_e {m : Nat} {n : Int32} {h : ax_Hp} {fs : List ax_T} (hd : h.2.2 1 = some (.inl (8, fs))) (hfs : fs[3]? = some (ax_A (some 14))) (hj : h.2.2 14 = some (.inr (5, sjs))) (hn : isSub n = true) : ax_F (m + 1) 16 [ax_A (some 1), ax_I n] h = some (.inl (some (ax_A (some (15 + 2 * n.toNatClampNeg)))), h) := by
  obtain ⟨e1, e2⟩ := isSub_nat hn
  have hn' := hn
  unfold isSub at hn'
  rw [Bool.and_eq_true, Bool.not_eq_true', Bool.not_eq_true', decide_eq_false_iff_not, decide_eq_false_iff_not] at hn'
  rw [Desk_subjectAt_F]
  unfold Desk_subjectAt_b
  have hld : ax_ldr h (some 14) 5 n = some (some (15 + 2 * n.toNatClampNeg)) := by
    have := pl_ldr (n := n.toNatClampNeg) hj (by omega) (sjs_at _ e2)
    rw [← e1] at this
    exact this
  rw [if_neg hn'.1, if_neg (fun z => hn'.2 (lt3_iff.mp z)), pl_gr hd hfs, Option.bind_some, hld, Option.bind_some, if_neg (by intro z; cases z)]
  rfl
theorem Desk_versions_e {m : Nat} {n c : Int32} {h : ax_Hp} {fs gs : List ax_T} (hd : h.2.2 1 = some (.inl (8, fs))) (hfs : fs[3]? = some (ax_A (some 14))) (hj : h.2.2 14 = some (.inr (5, sjs))) (hn : isSub n = true) (hg : h.2.2 (15 + 2 * n.toNatClampNeg) = some (.inl (6, gs))) (hc : gs[1]? = some (ax_I c)) : ax_F (m + 2) 90 [ax_A (some 1), ax_I n] h = some (.inl (some (ax_I c)), h) := by
  rw [Desk_versions_F]
  unfold Desk_versions_b
  have e : ax_F (m + 1) 91 [ax_A (some (15 + 2 * n.toNatClampNeg))] h = some (.inl (some (ax_I c)), h) := by
    rw [Subject_count_F]
    unfold Subject_count_b
    rw [pl_gi hg hc]
    rfl
  rw [pl_on hd, pl_cr (Desk_subjectAt_e hd hfs hj hn), pl_on hg, pl_ci e]
  rfl
theorem Desk_mode_e {m : Nat} {n x : Int32} {h : ax_Hp} {fs gs : List ax_T} (hd : h.2.2 1 = some (.inl (8, fs))) (hfs : fs[3]? = some (ax_A (some 14))) (hj : h.2.2 14 = some (.inr (5, sjs))) (hn : isSub n = true) (hg : h.2.2 (15 + 2 * n.toNatClampNeg) = some (.inl (6, gs))) (hl : gs.length = 3) (h0 : ¬ x < 0) (h6 : x ≤ 6) : ax_F (m + 2) 15 [ax_A (some 1), ax_I n, ax_I x] h = some (.inl none, ax_set h (15 + 2 * n.toNatClampNeg) (.inl (6, gs.set 2 (ax_I x)))) := by
  rw [Desk_mode_F]
  unfold Desk_mode_b
  have e : ax_F (m + 1) 17 [ax_A (some (15 + 2 * n.toNatClampNeg)), ax_I x] h = some (.inl none, ax_set h (15 + 2 * n.toNatClampNeg) (.inl (6, gs.set 2 (ax_I x)))) := by
    rw [Subject_setMode_F]
    unfold Subject_setMode_b
    rw [pl_pf hg (by omega)]
    rfl
  rw [pl_on hd, pl_cr (Desk_subjectAt_e hd hfs hj hn), if_neg h0, if_pos h6, pl_on hg, pl_cv e]
  rfl
theorem Model_isSubject_e {m : Nat} {n : Int32} {h : ax_Hp} : ax_F (m + 1) 150 [ax_I n] h = some (.inl (some (ax_I (if isSub n = true then 1 else 0))), h) := by
  rw [Model_isSubject_F]
  unfold Model_isSubject_b isSub
  by_cases h1 : n < 0
  · rw [if_pos h1, pl_rz0, if_neg (by simp [h1])]
  · rw [if_neg h1]
    by_cases h2 : 3 < n
    · rw [if_pos h2, pl_rz0, if_neg (by simp [h2])]
    · rw [if_neg h2, pl_rz1, if_pos (by simp [h1, h2])]
theorem Model_versions_e {m : Nat} {n c : Int32} {h : ax_Hp} {fs es : List ax_T} (hm : h.2.2 24 = some (.inl (9, fs))) (hl : fs.length = 50) (h11 : fs[11]? = some (ax_A (some 30))) (ha : h.2.2 30 = some (.inr (1, es))) (hn : isSub n = true) (hc : es[n.toNatClampNeg]? = some (ax_I c)) : ax_F (m + 2) 185 [ax_A (some 24), ax_I n] h = some (.inl (some (ax_I c)), ax_set h 24 (.inl (9, fs.set 0 (ax_I 0)))) := by
  obtain ⟨e1, e2⟩ := isSub_nat hn
  have hld : ax_ldi (ax_set h 24 (.inl (9, fs.set 0 (ax_I 0)))) (some 30) 1 n = some c := by
    have := pl_ldi (n := n.toNatClampNeg) ((pl_ne (h := h) (a := 24) (b := 30) (o := .inl (9, fs.set 0 (ax_I 0))) (by decide)).trans ha) (by omega) hc
    rw [← e1] at this
    exact this
  rw [Model_versions_F]
  unfold Model_versions_b
  rw [pl_ci Model_isSubject_e, if_pos hn, if_neg (by decide)]
  unfold Model_versions_jn13
  rw [pl_pf hm (by omega), Option.bind_some, pl_gi pl_set (List.getElem?_set_self (by omega)), Option.bind_some, if_pos rfl, pl_gr pl_set ((List.getElem?_set_ne (by decide)).trans h11), Option.bind_some, hld]
  rfl
theorem Model_versions_no {m : Nat} {n : Int32} {h : ax_Hp} {fs : List ax_T} (hm : h.2.2 24 = some (.inl (9, fs))) (hl : fs.length = 50) (hn : ¬ isSub n = true) : ax_F (m + 2) 185 [ax_A (some 24), ax_I n] h = some (.inl (some (ax_I 0)), ax_set h 24 (.inl (9, fs.set 0 (ax_I 1)))) := by
  rw [Model_versions_F]
  unfold Model_versions_b
  rw [pl_ci Model_isSubject_e, if_neg hn, if_pos rfl]
  unfold Model_versions_jn13
  rw [pl_pf hm (by omega), Option.bind_some, pl_gi pl_set (List.getElem?_set_self (by omega)), Option.bind_some, if_neg (by decide)]
  rfl
