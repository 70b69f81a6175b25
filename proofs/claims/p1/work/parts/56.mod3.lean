theorem Model_feed_e {m : Nat} {v : Int64} {n : Int32} {h : ax_Hp} {fs : List ax_T} {xs : List Int32} (hm : h.2.2 24 = some (.inl (9, fs))) (hl : fs.length = 50) (h3 : fs[3]? = some (ax_I (Int32.ofNat xs.length))) (h4 : fs[4]? = some (ax_A (some 26))) (R : arrIs h 26 1 64 xs) :
    ∃ h' fs', ax_F (m + 2) 147 [ax_A (some 24), ax_L v, ax_I n] h = some (.inl (some (ax_I (if fdOk n xs.length = true then 1 else 0))), h') ∧ h'.2.2 24 = some (.inl (9, fs')) ∧ fs'.length = 50 ∧ fs'[0]? = some (ax_I 0) ∧ fs'[3]? = some (ax_I (Int32.ofNat (if fdOk n xs.length = true then xs ++ byL v n.toNatClampNeg 0 else xs).length)) ∧ (∀ j, j ≠ 0 → j ≠ 3 → fs'[j]? = fs[j]?) ∧ arrIs h' 26 1 64 (if fdOk n xs.length = true then xs ++ byL v n.toNatClampNeg 0 else xs) ∧ but2 h h' 24 26 := by
  have hle : xs.length ≤ 64 := by
    obtain ⟨es, -, -, -, r4⟩ := R
    exact r4
  rw [Model_feed_F]
  unfold Model_feed_b
  rw [pl_pf hm (by omega), Option.bind_some]
  generalize hh1 : ax_set h 24 (.inl (9, fs.set 0 (ax_I 0))) = h1
  have hm1 : h1.2.2 24 = some (.inl (9, fs.set 0 (ax_I 0))) := by rw [← hh1]; exact pl_set
  have hb1 : but2 h h1 24 26 := by rw [← hh1]; exact ⟨rfl, rfl, fun q g _ => pl_ne g⟩
  have R1 : arrIs h1 26 1 64 xs := by rw [← hh1]; exact arrIs_kept R (pl_ne (by decide))
  have z0 : (fs.set 0 (ax_I 0))[0]? = some (ax_I 0) := List.getElem?_set_self (by omega)
  have z3 : (fs.set 0 (ax_I 0))[3]? = some (ax_I (Int32.ofNat xs.length)) := (List.getElem?_set_ne (by decide)).trans h3
  have zj : ∀ j, j ≠ 0 → (fs.set 0 (ax_I 0))[j]? = fs[j]? := fun j g => List.getElem?_set_ne (Ne.symm g)
  have no : ¬ fdOk n xs.length = true → ∃ h' fs', ax_rz 0 h1 = some (.inl (some (ax_I (if fdOk n xs.length = true then 1 else 0))), h') ∧ h'.2.2 24 = some (.inl (9, fs')) ∧ fs'.length = 50 ∧ fs'[0]? = some (ax_I 0) ∧ fs'[3]? = some (ax_I (Int32.ofNat (if fdOk n xs.length = true then xs ++ byL v n.toNatClampNeg 0 else xs).length)) ∧ (∀ j, j ≠ 0 → j ≠ 3 → fs'[j]? = fs[j]?) ∧ arrIs h' 26 1 64 (if fdOk n xs.length = true then xs ++ byL v n.toNatClampNeg 0 else xs) ∧ but2 h h' 24 26 := by
    intro hw
    rw [if_neg hw, if_neg hw, pl_rz0]
    exact ⟨h1, _, rfl, hm1, by rw [List.length_set]; exact hl, z0, z3, fun j g _ => zj j g, R1, hb1⟩
  by_cases c1 : n < 1
  · rw [if_pos c1]
    exact no (by unfold fdOk; simp [c1])
  · rw [if_neg c1]
    by_cases c2 : 8 < n
    · rw [if_pos c2]
      exact no (by unfold fdOk; simp [c2])
    · obtain ⟨e1, e2, e3⟩ := pl_n8 c1 c2
      have hsum : Int32.ofNat xs.length + n = Int32.ofNat (xs.length + n.toNatClampNeg) := by
        rw [Int32.ofNat_add, ← e1]
      rw [if_neg c2, pl_gi hm1 z3, Option.bind_some, hsum]
      have hiff : Int32.ofNat (xs.length + n.toNatClampNeg) ≤ 64 ↔ xs.length + n.toNatClampNeg ≤ 64 := pl_le (m := 64) (by omega) (by omega)
      by_cases c3 : xs.length + n.toNatClampNeg ≤ 64
      · have hw : fdOk n xs.length = true := by
          unfold fdOk
          simp [c1, c2, c3]
        rw [if_pos (hiff.mpr c3), if_pos hw, if_pos hw]
        obtain ⟨h', fs', p1, p2, p3, p4, p5, p6⟩ := Model_feed_l (m := m) (v := v) e3 n.toNatClampNeg 0 1000000000000 h1 (fs.set 0 (ax_I 0)) xs (by omega) (by omega) hm1 (by rw [List.length_set]; exact hl) z3 ((zj 4 (by decide)).trans h4) R1 c3
        rw [← e1] at p1
        exact ⟨h', fs', p1, p2, by rw [p3.1, List.length_set]; exact hl, (p3.2 0 (by decide)).trans z0, by rw [p4, List.length_append, byL_len], fun j g1 g2 => (p3.2 j g2).trans (zj j g1), p5, hb1.trans p6⟩
      · rw [if_neg (fun z => c3 (hiff.mp z))]
        exact no (by unfold fdOk; simp [c3])
theorem nc_tab : ∀ k, k < 127 → ax_nc (((Int32.ofNat k).toUInt32 % 65536).toInt32) = Int32.ofNat k := by decide +kernel
theorem okC_nat {b : Int32} (h : okC b = true) : b = Int32.ofNat b.toNatClampNeg ∧ 32 ≤ b.toNatClampNeg ∧ b.toNatClampNeg ≤ 126 := by
  unfold okC at h
  rw [Bool.and_eq_true, Bool.not_eq_true', Bool.not_eq_true', decide_eq_false_iff_not, decide_eq_false_iff_not] at h
  have g1 : (32 : Int) ≤ b.toInt := by
    have := Int32.le_iff_toInt_le.mp (Int32.not_lt.mp h.1)
    simpa using this
  have g2 : b.toInt ≤ 126 := by
    have := Int32.le_iff_toInt_le.mp (Int32.not_lt.mp h.2)
    simpa using this
  have g3 : b.toNatClampNeg = b.toInt.toNat := rfl
  refine ⟨(Int32.ofNat_toNatClampNeg b ?_).symm, by omega, by omega⟩
  refine Int32.le_iff_toInt_le.mpr ?_
  have z : (0 : Int32).toInt = 0 := by decide
  omega
theorem nc_ok {b : Int32} (h : okC b = true) : ax_nc ((b.toUInt32 % 65536).toInt32) = b := by
  obtain ⟨e1, e2, e3⟩ := okC_nat h
  have := nc_tab b.toNatClampNeg (by omega)
  rw [← e1] at this
  exact this
