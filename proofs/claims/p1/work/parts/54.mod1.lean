theorem Model_thrown_e {m : Nat} {h : ax_Hp} {fs : List ax_T} {c : Int32} (hm : h.2.2 24 = some (.inl (9, fs))) (h0 : fs[0]? = some (ax_I c)) : ax_F (m + 1) 144 [ax_A (some 24)] h = some (.inl (some (ax_I c)), h) := by
  rw [Model_thrown_F]
  unfold Model_thrown_b
  rw [pl_gi hm h0]
  rfl
theorem Model_wipe_e {m : Nat} {h : ax_Hp} {fs : List ax_T} {t : Int32} (hm : h.2.2 24 = some (.inl (9, fs))) (hl : fs.length = 50) (ht : fs[1]? = some (ax_I t)) : ax_F (m + 1) 146 [ax_A (some 24)] h = some (.inl (some (ax_I t)), ax_set (ax_set h 24 (.inl (9, fs.set 0 (ax_I 0)))) 24 (.inl (9, (fs.set 0 (ax_I 0)).set 1 (ax_I 0)))) := by
  rw [Model_wipe_F]
  unfold Model_wipe_b
  rw [pl_pf hm (by omega), Option.bind_some, pl_gi pl_set ((List.getElem?_set_ne (by decide)).trans ht), Option.bind_some, pl_pf pl_set (by rw [List.length_set]; omega), Option.bind_some]
  rfl
theorem Model_drain_e {m : Nat} {h : ax_Hp} {fs : List ax_T} {t : Int32} (hm : h.2.2 24 = some (.inl (9, fs))) (hl : fs.length = 50) (ht : fs[3]? = some (ax_I t)) : ax_F (m + 1) 148 [ax_A (some 24)] h = some (.inl (some (ax_I t)), ax_set (ax_set h 24 (.inl (9, fs.set 0 (ax_I 0)))) 24 (.inl (9, (fs.set 0 (ax_I 0)).set 3 (ax_I 0)))) := by
  rw [Model_drain_F]
  unfold Model_drain_b
  rw [pl_pf hm (by omega), Option.bind_some, pl_gi pl_set ((List.getElem?_set_ne (by decide)).trans ht), Option.bind_some, pl_pf pl_set (by rw [List.length_set]; omega), Option.bind_some]
  rfl
theorem Model_place_e {m : Nat} {h : ax_Hp} {fs : List ax_T} {t : Int32} (hm : h.2.2 24 = some (.inl (9, fs))) (hl : fs.length = 50) (ht : fs[9]? = some (ax_I t)) : ax_F (m + 1) 208 [ax_A (some 24)] h = some (.inl (some (ax_I t)), ax_set h 24 (.inl (9, fs.set 0 (ax_I 0)))) := by
  rw [Model_place_F]
  unfold Model_place_b
  rw [pl_pf hm (by omega), Option.bind_some, pl_gi pl_set ((List.getElem?_set_ne (by decide)).trans ht), Option.bind_some]
  rfl
