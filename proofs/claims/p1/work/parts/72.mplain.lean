theorem Model_wipe_z {m : Nat} {h : ax_Hp} {s : mS} : ax_F (m + 1) 146 [ax_A (some 24)] (mH h s) = some (.inl (some (ax_I (Int32.ofInt (s.1 1)))), mH h (mI (mI s 0 0) 1 0)) := by
  rw [Model_wipe_F]
  unfold Model_wipe_b
  simp (disch := omega) only [↓mgi_1, mpf_0, mpf_1, Option.bind_some, ↓zi_lit, mI_1, ↓reduceIte, reduceCtorEq]
  rfl
theorem Model_drain_z {m : Nat} {h : ax_Hp} {s : mS} : ax_F (m + 1) 148 [ax_A (some 24)] (mH h s) = some (.inl (some (ax_I (Int32.ofInt (s.1 3)))), mH h (mI (mI s 0 0) 3 0)) := by
  rw [Model_drain_F]
  unfold Model_drain_b
  simp (disch := omega) only [↓mgi_3, mpf_0, mpf_3, Option.bind_some, ↓zi_lit, mI_1, ↓reduceIte, reduceCtorEq]
  rfl
theorem Model_place_z {m : Nat} {h : ax_Hp} {s : mS} : ax_F (m + 1) 208 [ax_A (some 24)] (mH h s) = some (.inl (some (ax_I (Int32.ofInt (s.1 9)))), mH h (mI s 0 0)) := by
  rw [Model_place_F]
  unfold Model_place_b
  simp (disch := omega) only [↓mgi_9, mpf_0, Option.bind_some, ↓zi_lit, mI_1, ↓reduceIte, reduceCtorEq]
  rfl
theorem Model_mode_y {m : Nat} {z w : Int} {h : ax_Hp} {s : mS} (z0 : 0 ≤ z) (z1 : z ≤ 3) (w0 : 0 ≤ w) (w1 : w ≤ 6) : ax_F (m + 2) 149 [ax_A (some 24), ax_I (Int32.ofInt z), ax_I (Int32.ofInt w)] (mH h s) = some (.inl none, mH h (mU (mI s 0 0) 10 z w)) := by
  rw [Model_mode_F]
  unfold Model_mode_b
  rw [pl_ci (Model_isSubject_z (by omega) (by omega)), if_pos (show 0 ≤ z ∧ z ≤ 3 from ⟨z0, z1⟩)]
  simp (disch := omega) only [↓mgi_0, mpf_0, ↓mgr_10, mst_10, Option.bind_some, ↓zi_lit, mI_1, zi_lt, zi_eq, ↓reduceIte, eq_self, Int.reduceEq, Model_mode_jn23, show ¬ w < 0 from by omega, show ¬ 6 < w from by omega]
  rfl
theorem Model_mode_n {m : Nat} {z w : Int} {h : ax_Hp} {s : mS} (z0 : -2147483648 ≤ z) (z1 : z < 2147483648) (w0 : -2147483648 ≤ w) (w1 : w < 2147483648) (hv : ¬ (0 ≤ z ∧ z ≤ 3 ∧ 0 ≤ w ∧ w ≤ 6)) : ax_F (m + 2) 149 [ax_A (some 24), ax_I (Int32.ofInt z), ax_I (Int32.ofInt w)] (mH h s) = some (.inl none, mH h (mI s 0 1)) := by
  rw [Model_mode_F]
  unfold Model_mode_b
  rw [pl_ci (Model_isSubject_z z0 z1)]
  by_cases c : 0 ≤ z ∧ z ≤ 3
  · rw [if_pos c]
    simp (disch := omega) only [↓mgi_0, mpf_0, ↓mgr_10, mst_10, Option.bind_some, ↓zi_lit, mI_1, zi_lt, zi_eq, ↓reduceIte, eq_self, Int.reduceEq, Model_mode_jn22, Model_mode_jn23]
    by_cases c2 : w < 0
    · rw [if_pos c2]
      rfl
    · rw [if_neg c2, if_pos (by omega)]
      rfl
  · rw [if_neg c]
    simp (disch := omega) only [↓mgi_0, mpf_0, ↓mgr_10, Option.bind_some, ↓zi_lit, mI_1, zi_eq, ↓reduceIte, eq_self, Int.reduceEq, Model_mode_jn22, Model_mode_jn23]
    rfl
theorem Model_versions_y {m : Nat} {z : Int} {h : ax_Hp} {s : mS} (z0 : 0 ≤ z) (z1 : z ≤ 3) : ax_F (m + 2) 185 [ax_A (some 24), ax_I (Int32.ofInt z)] (mH h s) = some (.inl (some (ax_I (Int32.ofInt (s.2.2.1 11 z.toNat)))), mH h (mI s 0 0)) := by
  rw [Model_versions_F]
  unfold Model_versions_b
  rw [pl_ci (Model_isSubject_z (by omega) (by omega)), if_pos (show 0 ≤ z ∧ z ≤ 3 from ⟨z0, z1⟩)]
  simp (disch := omega) only [↓mgi_0, mpf_0, ↓mgr_11, mld_11, Option.bind_some, ↓zi_lit, mI_1, mI_2, zi_eq, ↓reduceIte, eq_self, Int.reduceEq, Model_versions_jn13]
  rfl
theorem Model_versions_n {m : Nat} {z : Int} {h : ax_Hp} {s : mS} (z0 : -2147483648 ≤ z) (z1 : z < 2147483648) (hv : ¬ (0 ≤ z ∧ z ≤ 3)) : ax_F (m + 2) 185 [ax_A (some 24), ax_I (Int32.ofInt z)] (mH h s) = some (.inl (some (ax_I 0)), mH h (mI s 0 1)) := by
  rw [Model_versions_F]
  unfold Model_versions_b
  rw [pl_ci (Model_isSubject_z z0 z1), if_neg hv]
  simp (disch := omega) only [↓mgi_0, mpf_0, ↓mgr_11, Option.bind_some, ↓zi_lit, mI_1, zi_eq, ↓reduceIte, eq_self, Int.reduceEq, Model_versions_jn13]
  rfl
theorem Model_out_y {m : Nat} {z : Int} {h : ax_Hp} {s : mS} (z0 : 0 ≤ z) (z1 : z < s.1 5) (h5 : s.1 5 ≤ 420) : ax_F (m + 2) 209 [ax_A (some 24), ax_I (Int32.ofInt z)] (mH h s) = some (.inl (some (ax_I (Int32.ofInt (s.2.2.1 6 z.toNat)))), mH h (mI s 0 0)) := by
  rw [Model_out_F]
  unfold Model_out_b
  simp (disch := omega) only [↓mgi_0, ↓mgi_5, mpf_0, ↓mgr_6, mld_6, Option.bind_some, ↓zi_lit, mI_1, mI_2, zi_lt, zi_le, zi_eq, ↓reduceIte, eq_self, Int.reduceEq, Model_out_jn17, Model_out_jn18, show ¬ z < 0 from by omega, show ¬ s.1 5 ≤ z from by omega]
  rfl
theorem Model_out_n {m : Nat} {z : Int} {h : ax_Hp} {s : mS} (z0 : -2147483648 ≤ z) (z1 : z < 2147483648) (h5 : s.1 5 ≤ 420) (h50 : 0 ≤ s.1 5) (hv : ¬ (0 ≤ z ∧ z < s.1 5)) : ax_F (m + 2) 209 [ax_A (some 24), ax_I (Int32.ofInt z)] (mH h s) = some (.inl (some (ax_I 0)), mH h (mI s 0 1)) := by
  rw [Model_out_F]
  unfold Model_out_b
  simp (disch := omega) only [↓mgi_0, ↓mgi_5, mpf_0, ↓mgr_6, mld_6, Option.bind_some, ↓zi_lit, mI_1, mI_2, zi_lt, zi_le, zi_eq, ↓reduceIte, eq_self, Int.reduceEq, Model_out_jn17, Model_out_jn18]
  by_cases c : z < 0
  · rw [if_pos c]
    rfl
  · rw [if_neg c, if_pos (by omega)]
    rfl
theorem mIs_eq {h : ax_Hp} {s : mS} (e : h.2.2 24 = some (.inl (9, mF s))) (ea : ∀ q, 25 ≤ q → q ≤ 58 → h.2.2 q = mA s q) : h = mH h s := by
  refine Prod.ext rfl (Prod.ext rfl ?_)
  funext q
  show h.2.2 q = if q = 24 then _ else if 25 ≤ q ∧ q ≤ 58 then _ else _
  by_cases c : q = 24
  · rw [if_pos c, c, e]
  · rw [if_neg c]
    by_cases c2 : 25 ≤ q ∧ q ≤ 58
    · rw [if_pos c2, ea q c2.1 c2.2]
    · rw [if_neg c2]
theorem arL_0 (n : Nat) : arL n (fun _ => 0) = List.replicate n (ax_I 0) := by
  refine List.ext_getElem? fun j => ?_
  by_cases hj : j < n
  · rw [arL_at _ hj, List.getElem?_replicate, if_pos hj]
    rfl
  · rw [List.getElem?_eq_none (by rw [arL_len]; omega), List.getElem?_eq_none (by rw [List.length_replicate]; omega)]
theorem arW_0 (n : Nat) : arW n (fun _ => 0) = List.replicate n (ax_L 0) := by
  refine List.ext_getElem? fun j => ?_
  by_cases hj : j < n
  · rw [arW_at _ hj, List.getElem?_replicate, if_pos hj]
  · rw [List.getElem?_eq_none (by rw [arW_len]; omega), List.getElem?_eq_none (by rw [List.length_replicate]; omega)]
def s0 : mS := (fun k => if k = 9 then -1 else 0, 0, fun _ _ => 0, fun _ => 0)
theorem s0_start (sc : Option ax_Ob) : ax_ls 9731 ax_L0 sc = mH (ax_ls 9731 ax_L0 sc) s0 := by
  refine mIs_eq ((ls_at 23).trans rfl) (fun q h1 h2 => mA_c (fun q => (ax_ls 9731 ax_L0 sc).2.2 q = mA s0 q) h1 h2 ((ls_at 24).trans (congrArg (fun x => some (Sum.inr (3, x))) (arL_0 160).symm)) ((ls_at 25).trans (congrArg (fun x => some (Sum.inr (1, x))) (arL_0 64).symm)) ((ls_at 26).trans (congrArg (fun x => some (Sum.inr (1, x))) (arL_0 420).symm)) ((ls_at 27).trans (congrArg (fun x => some (Sum.inr (1, x))) (arL_0 420).symm)) ((ls_at 28).trans (congrArg (fun x => some (Sum.inr (1, x))) (arL_0 4).symm)) ((ls_at 29).trans (congrArg (fun x => some (Sum.inr (1, x))) (arL_0 4).symm)) ((ls_at 30).trans (congrArg (fun x => some (Sum.inr (3, x))) (arL_0 3840).symm)) ((ls_at 31).trans (congrArg (fun x => some (Sum.inr (1, x))) (arL_0 24).symm)) ((ls_at 32).trans (congrArg (fun x => some (Sum.inr (3, x))) (arL_0 320).symm)) ((ls_at 33).trans (congrArg (fun x => some (Sum.inr (1, x))) (arL_0 2).symm)) ((ls_at 34).trans (congrArg (fun x => some (Sum.inr (1, x))) (arL_0 2).symm)) ((ls_at 35).trans (congrArg (fun x => some (Sum.inr (3, x))) (arL_0 240).symm)) ((ls_at 36).trans (congrArg (fun x => some (Sum.inr (1, x))) (arL_0 240).symm)) ((ls_at 37).trans (congrArg (fun x => some (Sum.inr (1, x))) (arL_0 240).symm)) ((ls_at 38).trans (congrArg (fun x => some (Sum.inr (1, x))) (arL_0 240).symm)) ((ls_at 39).trans (congrArg (fun x => some (Sum.inr (3, x))) (arL_0 240).symm)) ((ls_at 40).trans (congrArg (fun x => some (Sum.inr (1, x))) (arL_0 240).symm)) ((ls_at 41).trans (congrArg (fun x => some (Sum.inr (1, x))) (arL_0 240).symm)) ((ls_at 42).trans (congrArg (fun x => some (Sum.inr (1, x))) (arL_0 240).symm)) ((ls_at 43).trans (congrArg (fun x => some (Sum.inr (4, x))) (arL_0 320).symm)) ((ls_at 44).trans (congrArg (fun x => some (Sum.inr (1, x))) (arL_0 8).symm)) ((ls_at 45).trans (congrArg (fun x => some (Sum.inr (1, x))) (arL_0 8).symm)) ((ls_at 46).trans (congrArg (fun x => some (Sum.inr (1, x))) (arL_0 10).symm)) ((ls_at 47).trans (congrArg (fun x => some (Sum.inr (1, x))) (arL_0 10).symm)) ((ls_at 48).trans (congrArg (fun x => some (Sum.inr (1, x))) (arL_0 10).symm)) ((ls_at 49).trans (congrArg (fun x => some (Sum.inr (1, x))) (arL_0 10).symm)) ((ls_at 50).trans (congrArg (fun x => some (Sum.inr (1, x))) (arL_0 10).symm)) ((ls_at 51).trans (congrArg (fun x => some (Sum.inr (1, x))) (arL_0 100).symm)) ((ls_at 52).trans (congrArg (fun x => some (Sum.inr (2, x))) (arW_0 240).symm)) ((ls_at 53).trans (congrArg (fun x => some (Sum.inr (1, x))) (arL_0 10).symm)) ((ls_at 54).trans (congrArg (fun x => some (Sum.inr (1, x))) (arL_0 10).symm)) ((ls_at 55).trans (congrArg (fun x => some (Sum.inr (1, x))) (arL_0 10).symm)) ((ls_at 56).trans (congrArg (fun x => some (Sum.inr (1, x))) (arL_0 10).symm)) ((ls_at 57).trans (congrArg (fun x => some (Sum.inr (1, x))) (arL_0 10).symm)) )
