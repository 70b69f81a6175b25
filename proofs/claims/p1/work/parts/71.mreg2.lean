theorem Model_register_ns {m : Nat} {z : Int} {h : ax_Hp} {s : mS} (z0 : -2147483648 ≤ z) (z1 : z < 2147483648) (hz : ¬ (0 ≤ z ∧ z ≤ 3)) : ax_F (m + 2) 151 [ax_A (some 24), ax_I (Int32.ofInt z)] (mH h s) = some (.inl (some (ax_I 0)), mH h (mI s 0 1)) := by
  rw [Model_register_F]
  unfold Model_register_b
  rw [pl_ci (Model_isSubject_z z0 z1), if_neg hz, if_pos (show Int32.ofInt 0 = 0 from rfl)]
  unfold Model_register_jn13
  simp (disch := omega) only [↓mgi_0, mpf_0, mS_on, Option.bind_some, ↓zi_lit, mI_1, zi_le, ↓reduceIte, eq_self, Int.reduceLE]
  rfl
theorem Model_register_0 {m : Nat} {z : Int} {h : ax_Hp} {s : mS} (z0 : 0 ≤ z) (z1 : z ≤ 3) (ht : s.1 1 = 0) (hc : ∀ i, 0 ≤ s.2.2.1 2 i ∧ s.2.2.1 2 i < 65536) : ∃ s' : mS, ax_F (m + 5) 151 [ax_A (some 24), ax_I (Int32.ofInt z)] (mH h s) = some (.inl (some (ax_I 0)), mH h s') ∧ s'.1 0 = 1 := by
  rw [Model_register_F]
  unfold Model_register_b
  rw [pl_ci (Model_isSubject_z (by omega) (by omega)), if_pos (show 0 ≤ z ∧ z ≤ 3 from ⟨z0, z1⟩), if_neg (show ¬ Int32.ofInt 1 = 0 from by decide)]
  unfold Model_register_jn13
  have e : ∃ s' : mS, ax_F (m + 4) 152 [ax_A (some 24), ax_I 0] (mH h (mI s 0 0)) = some (.inl (some (ax_I (Int32.ofInt 0))), mH h s') := by
    rw [Model_loadTyped_F]
    unfold Model_loadTyped_b
    simp (disch := omega) only [↓mgi_1, ↓mgr_15, mst_15, Option.bind_some, ↓zi_lit, mI_1, ↓reduceIte, reduceCtorEq, ht]
    obtain ⟨s1, e, e1, e2, e3, e4, e5⟩ := Model_loadTyped_l (m := m + 3) (t := 0) (n := 0) (h := h) (by omega) (by omega) (by omega) 0 (mU (mI s 0 0) 15 0 0) ax_fuel (by omega) (by unfold ax_fuel; omega) ht (fun i => hc i)
    obtain ⟨s2, q, -⟩ := Model_readSchema_0 (m := m) (h := h) (s := s1) (t := 0) (by omega) (by omega) (by rw [e4 15 _ (by decide)]; rfl)
    refine ⟨s2, Eq.trans e ?_⟩
    rw [pl_ci q]
    rfl
  obtain ⟨s1, q⟩ := e
  refine ⟨mI (mI s1 9 0) 0 1, ?_, rfl⟩
  simp (disch := omega) only [↓mgi_0, mpf_0, mS_on, Option.bind_some, ↓zi_lit, mI_1, zi_le, ↓reduceIte, eq_self, Int.reduceLE]
  rw [pl_ci (show ax_F (m + 4) 152 [ax_A (some 24), ax_I (Int32.ofInt 0)] (mH h (mI s 0 0)) = _ from q)]
  simp (disch := omega) only [mpf_0, mpf_9, Option.bind_some, zi_lt, ↓reduceIte, Int.reduceLT]
  rfl
