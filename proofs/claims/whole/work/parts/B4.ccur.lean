/-- the cursor's text reads v -/
def cvX (g : ax_Hp) (K : Nat → Nat) (v : Int → Int) : Prop := ∃ (ci : Nat) (fv : Nat → Int), g.2.2 (K 6) = some (.inr (1, arL ci fv)) ∧ K 7 ≤ ci ∧ ci ≤ 400 ∧ (∀ i, i < 6 → K 6 ≠ K i) ∧ (∀ p : Int, 0 ≤ p → p < K 7 → fv p.toNat = v p ∧ 1 ≤ v p ∧ v p < 128) ∧ (∀ p : Int, (K 7 : Int) ≤ p → v p = 0) ∧ (∀ p : Int, 0 ≤ v p ∧ v p < 128)
theorem Cu_at {m : Nat} {g : ax_Hp} {K : Nat → Nat} {s : cS} : ax_F (m + 1) 27 [ax_A (some (K 0))] (cH g K s) = some (.inl (some (ax_I (Int32.ofInt s.1))), cH g K s) := by
  rw [Cursor_at_F]
  unfold Cursor_at_b
  rw [pl_gi (cH_k0 g K s) rfl]
  rfl
theorem Cu_peek {m : Nat} {g : ax_Hp} {K : Nat → Nat} {v : Int → Int} {s : cS} (h : kOk K) (X : cvX g K v) (p0 : 0 ≤ s.1) (p1 : s.1 ≤ 1000) : ax_F (m + 1) 29 [ax_A (some (K 0))] (cH g K s) = some (.inl (some (ax_I (Int32.ofInt (if s.1 < K 7 then v s.1 else -1)))), cH g K s) := by
  obtain ⟨ci, fv, x1, x2, x3, x4, x5, x6, x7⟩ := X
  have k7 := h.2.1
  rw [Cursor_peek_F]
  unfold Cursor_peek_b
  rw [pl_gi (cH_k0 g K s) (show _ = some (ax_I (Int32.ofInt s.1)) from rfl), Option.bind_some, if_neg (show ¬ Int32.ofInt s.1 < 0 from zi_n0 p0 (by omega)), Option.bind_some, pl_gi (cH_k0 g K s) (show _ = some (ax_I (Int32.ofInt (K 7))) from rfl), Option.bind_some]
  by_cases c : s.1 < K 7
  · rw [if_pos c, if_neg (show ¬ Int32.ofInt (K 7) ≤ Int32.ofInt s.1 from by rw [zi_le (by omega) (by omega) (by omega) (by omega)]; omega), pl_gr (cH_k0 g K s) (show _ = some (ax_A (some (K 6))) from rfl), Option.bind_some, Option.bind_some, za_ld (n := ci) (f := fv) ((cH_o x4).trans x1) p0 (by omega) (by omega), Option.bind_some, (x5 s.1 p0 c).1]
    rfl
  · rw [if_neg c, if_pos (show Int32.ofInt (K 7) ≤ Int32.ofInt s.1 from by rw [zi_le (by omega) (by omega) (by omega) (by omega)]; omega)]
    rfl
theorem Cu_take {m : Nat} {g : ax_Hp} {K : Nat → Nat} {v : Int → Int} {s : cS} {x : Int} (h : kOk K) (X : cvX g K v) (p0 : 0 ≤ s.1) (p1 : s.1 ≤ 1000) (x0 : 1 ≤ x) (x1 : x < 128) : ax_F (m + 1) 30 [ax_A (some (K 0)), ax_I (Int32.ofInt x)] (cH g K s) = some (.inl (some (ax_I (Int32.ofInt (if v s.1 = x then 1 else 0)))), cH g K (if v s.1 = x then cAt s (s.1 + 1) else s)) := by
  obtain ⟨ci, fv, y1, y2, y3, y4, y5, y6, y7⟩ := X
  have k7 := h.2.1
  have b := y7 s.1
  rw [Cursor_take_F]
  unfold Cursor_take_b
  rw [pl_gi (cH_k0 g K s) (show _ = some (ax_I (Int32.ofInt s.1)) from rfl), Option.bind_some, if_neg (show ¬ Int32.ofInt s.1 < 0 from zi_n0 p0 (by omega)), Option.bind_some, pl_gi (cH_k0 g K s) (show _ = some (ax_I (Int32.ofInt (K 7))) from rfl), Option.bind_some]
  by_cases c : s.1 < K 7
  · rw [if_neg (show ¬ Int32.ofInt (K 7) ≤ Int32.ofInt s.1 from by rw [zi_le (by omega) (by omega) (by omega) (by omega)]; omega), pl_gr (cH_k0 g K s) (show _ = some (ax_A (some (K 6))) from rfl), Option.bind_some, Option.bind_some, za_ld (n := ci) (f := fv) ((cH_o y4).trans y1) p0 (by omega) (by omega), Option.bind_some, (y5 s.1 p0 c).1]
    by_cases d : v s.1 = x
    · rw [if_pos d, if_pos d, if_pos (show Int32.ofInt (v s.1) = Int32.ofInt x from by rw [d]), Option.bind_some, show (1 : Int32) = Int32.ofInt 1 from rfl, zi_add, cpf_at h, Option.bind_some]
      exact za_rz (Or.inr rfl)
    · rw [if_neg d, if_neg d, if_neg (show ¬ Int32.ofInt (v s.1) = Int32.ofInt x from by rw [zi_eq (by omega) (by omega) (by omega) (by omega)]; exact d)]
      exact za_rz (v := 0) (Or.inl rfl)
  · have z := y6 s.1 (by omega)
    rw [if_pos (show Int32.ofInt (K 7) ≤ Int32.ofInt s.1 from by rw [zi_le (by omega) (by omega) (by omega) (by omega)]; omega), if_neg (by omega), if_neg (by omega)]
    exact za_rz (v := 0) (Or.inl rfl)
theorem Cu_step {m : Nat} {g : ax_Hp} {K : Nat → Nat} {s : cS} (h : kOk K) (p0 : 0 ≤ s.1) (p1 : s.1 ≤ 1000) : ax_F (m + 1) 34 [ax_A (some (K 0))] (cH g K s) = some (.inl none, cH g K (if s.1 < K 7 then cAt s (s.1 + 1) else s)) := by
  have k7 := h.2.1
  rw [Cursor_step_F]
  unfold Cursor_step_b
  rw [pl_gi (cH_k0 g K s) (show _ = some (ax_I (Int32.ofInt s.1)) from rfl), Option.bind_some, pl_gi (cH_k0 g K s) (show _ = some (ax_I (Int32.ofInt (K 7))) from rfl), Option.bind_some]
  by_cases c : s.1 < K 7
  · rw [if_pos c, if_neg (show ¬ Int32.ofInt (K 7) ≤ Int32.ofInt s.1 from by rw [zi_le (by omega) (by omega) (by omega) (by omega)]; omega), Option.bind_some, show (1 : Int32) = Int32.ofInt 1 from rfl, zi_add, cpf_at h, Option.bind_some]
    rfl
  · rw [if_neg c, if_pos (show Int32.ofInt (K 7) ≤ Int32.ofInt s.1 from by rw [zi_le (by omega) (by omega) (by omega) (by omega)]; omega)]
    rfl
theorem Cu_end {m : Nat} {g : ax_Hp} {K : Nat → Nat} {s : cS} (h : kOk K) (p0 : 0 ≤ s.1) (p1 : s.1 ≤ 1000) : ax_F (m + 1) 52 [ax_A (some (K 0))] (cH g K s) = some (.inl (some (ax_I (Int32.ofInt (if s.1 < K 7 then 0 else 1)))), cH g K s) := by
  have k7 := h.2.1
  rw [Cursor_isAtEnd_F]
  unfold Cursor_isAtEnd_b
  rw [pl_gi (cH_k0 g K s) (show _ = some (ax_I (Int32.ofInt s.1)) from rfl), Option.bind_some, pl_gi (cH_k0 g K s) (show _ = some (ax_I (Int32.ofInt (K 7))) from rfl), Option.bind_some]
  by_cases c : s.1 < K 7
  · rw [if_pos c, if_pos (show Int32.ofInt s.1 < Int32.ofInt (K 7) from by rw [zi_lt (by omega) (by omega) (by omega) (by omega)]; exact c)]
    exact za_rz (v := 0) (Or.inl rfl)
  · rw [if_neg c, if_neg (show ¬ Int32.ofInt s.1 < Int32.ofInt (K 7) from by rw [zi_lt (by omega) (by omega) (by omega) (by omega)]; exact c)]
    exact za_rz (v := 1) (Or.inr rfl)
/-- a schema at sc, its marks among the working cells, its text c in a row at tr with items at ti, of length l -/
def csX (g : ax_Hp) (K : Nat → Nat) (sc tr ti l : Nat) (c : Int → Int) : Prop := g.2.2 sc = some (.inl (3, [ax_A (some tr), ax_A (some (K 1)), ax_A (some (K 2)), ax_A (some (K 3))])) ∧ (∀ i, i < 6 → sc ≠ K i) ∧ g.2.2 tr = some (.inl (2, [ax_A (some ti), ax_I (Int32.ofInt l)])) ∧ (∀ i, i < 6 → tr ≠ K i) ∧ (∀ i, i < 6 → ti ≠ K i) ∧ l ≤ 160 ∧ l ≤ K 8 ∧ ∃ (ci : Nat) (fc : Nat → Int), g.2.2 ti = some (.inr (1, arL ci fc)) ∧ l ≤ ci ∧ ci ≤ 400 ∧ (∀ p : Int, 0 ≤ p → p < l → fc p.toNat = c p) ∧ (∀ p : Int, (l : Int) ≤ p → c p = 0) ∧ (∀ p : Int, 0 ≤ c p ∧ c p < 128)
theorem Sc_markEnd {m : Nat} {g : ax_Hp} {K : Nat → Nat} {sc tr ti l : Nat} {c : Int → Int} {s : cS} {i v : Int} (h : kOk K) (S : csX g K sc tr ti l c) (h0 : 0 ≤ i) (h1 : i ≤ 1000) : ax_F (m + 1) 36 [ax_A (some sc), ax_I (Int32.ofInt i), ax_I (Int32.ofInt v)] (cH g K s) = some (.inl none, cH g K (if i < K 8 then cEn s i v else s)) := by
  have k8 := h.2.2.1
  rw [Schema_markEnd_F]
  unfold Schema_markEnd_b
  rw [if_neg (show ¬ Int32.ofInt i < 0 from zi_n0 h0 (by omega)), pl_gr ((cH_o S.2.1).trans S.1) (show _ = some (ax_A (some (K 1))) from rfl), Option.bind_some, cln g s (cH_k1 g h s), Option.bind_some]
  by_cases d : i < K 8
  · rw [if_pos d, if_neg (show ¬ Int32.ofInt (K 8) ≤ Int32.ofInt i from by rw [zi_le (by omega) (by omega) (by omega) (by omega)]; omega), Option.bind_some, cst_en h s i v h0 d, Option.bind_some]
    rfl
  · rw [if_neg d, if_pos (show Int32.ofInt (K 8) ≤ Int32.ofInt i from by rw [zi_le (by omega) (by omega) (by omega) (by omega)]; omega)]
    rfl
theorem Sc_markNext {m : Nat} {g : ax_Hp} {K : Nat → Nat} {sc tr ti l : Nat} {c : Int → Int} {s : cS} {i v : Int} (h : kOk K) (S : csX g K sc tr ti l c) (h0 : 0 ≤ i) (h1 : i ≤ 1000) : ax_F (m + 1) 39 [ax_A (some sc), ax_I (Int32.ofInt i), ax_I (Int32.ofInt v)] (cH g K s) = some (.inl none, cH g K (if i < K 8 then cNx s i v else s)) := by
  have k8 := h.2.2.1
  rw [Schema_markNext_F]
  unfold Schema_markNext_b
  rw [if_neg (show ¬ Int32.ofInt i < 0 from zi_n0 h0 (by omega)), pl_gr ((cH_o S.2.1).trans S.1) (show _ = some (ax_A (some (K 2))) from rfl), Option.bind_some, cln g s (cH_k2 g h s), Option.bind_some]
  by_cases d : i < K 8
  · rw [if_pos d, if_neg (show ¬ Int32.ofInt (K 8) ≤ Int32.ofInt i from by rw [zi_le (by omega) (by omega) (by omega) (by omega)]; omega), Option.bind_some, cst_nx h s i v h0 d, Option.bind_some]
    rfl
  · rw [if_neg d, if_pos (show Int32.ofInt (K 8) ≤ Int32.ofInt i from by rw [zi_le (by omega) (by omega) (by omega) (by omega)]; omega)]
    rfl
theorem Sc_markUnion {m : Nat} {g : ax_Hp} {K : Nat → Nat} {sc tr ti l : Nat} {c : Int → Int} {s : cS} {i : Int} (h : kOk K) (S : csX g K sc tr ti l c) (h0 : 0 ≤ i) (h1 : i ≤ 1000) : ax_F (m + 1) 59 [ax_A (some sc), ax_I (Int32.ofInt i)] (cH g K s) = some (.inl none, cH g K (if i < K 8 then cUn s i 1 else s)) := by
  have k8 := h.2.2.1
  rw [Schema_markUnion_F]
  unfold Schema_markUnion_b
  rw [if_neg (show ¬ Int32.ofInt i < 0 from zi_n0 h0 (by omega)), pl_gr ((cH_o S.2.1).trans S.1) (show _ = some (ax_A (some (K 3))) from rfl), Option.bind_some, cln g s (cH_k3 g h s), Option.bind_some]
  by_cases d : i < K 8
  · rw [if_pos d, if_neg (show ¬ Int32.ofInt (K 8) ≤ Int32.ofInt i from by rw [zi_le (by omega) (by omega) (by omega) (by omega)]; omega), Option.bind_some, show (1 : Int32) = Int32.ofInt 1 from rfl, cst_un h s i 1 h0 d, Option.bind_some]
    rfl
  · rw [if_neg d, if_pos (show Int32.ofInt (K 8) ≤ Int32.ofInt i from by rw [zi_le (by omega) (by omega) (by omega) (by omega)]; omega)]
    rfl
theorem Sc_at0 {m : Nat} {g : ax_Hp} {K : Nat → Nat} {sc tr ti l : Nat} {c : Int → Int} {s : cS} {i : Int} (S : csX g K sc tr ti l c) (h0 : 0 ≤ i) (h1 : i ≤ 1000) : ax_F (m + 1) 45 [ax_A (some tr), ax_I (Int32.ofInt i)] (cH g K s) = some (.inl (some (ax_I (Int32.ofInt (if i < l then c i else -1)))), cH g K s) := by
  obtain ⟨y1, y2, y3, y4, y5, y6, y6', ci, fc, z1, z2, z3, z4, z5, z6⟩ := S
  rw [Row_at_F]
  unfold Row_at_b
  rw [if_neg (show ¬ Int32.ofInt i < 0 from zi_n0 h0 (by omega)), pl_gi ((cH_o y4).trans y3) (show _ = some (ax_I (Int32.ofInt l)) from rfl), Option.bind_some]
  by_cases d : i < l
  · rw [if_pos d, if_neg (show ¬ Int32.ofInt l ≤ Int32.ofInt i from by rw [zi_le (by omega) (by omega) (by omega) (by omega)]; omega), pl_gr ((cH_o y4).trans y3) (show _ = some (ax_A (some ti)) from rfl), Option.bind_some, za_ld (n := ci) (f := fc) ((cH_o y5).trans z1) h0 (by omega) (by omega), Option.bind_some, z4 i h0 d]
    rfl
  · rw [if_neg d, if_pos (show Int32.ofInt l ≤ Int32.ofInt i from by rw [zi_le (by omega) (by omega) (by omega) (by omega)]; omega)]
    rfl
theorem Sc_kind {m : Nat} {g : ax_Hp} {K : Nat → Nat} {sc tr ti l : Nat} {c : Int → Int} {s : cS} {i : Int} (S : csX g K sc tr ti l c) (h0 : 0 ≤ i) (h1 : i ≤ 1000) : ax_F (m + 2) 44 [ax_A (some sc), ax_I (Int32.ofInt i)] (cH g K s) = some (.inl (some (ax_I (Int32.ofInt (if i < l then c i else -1)))), cH g K s) := by
  rw [Schema_kind_F]
  unfold Schema_kind_b
  rw [pl_gr ((cH_o S.2.1).trans S.1) (show _ = some (ax_A (some tr)) from rfl), Option.bind_some, pl_on ((cH_o S.2.2.2.1).trans S.2.2.1), pl_ci (Sc_at0 S h0 h1)]
  rfl
theorem Sc_next {m : Nat} {g : ax_Hp} {K : Nat → Nat} {sc tr ti l : Nat} {c : Int → Int} {s : cS} {i : Int} (h : kOk K) (S : csX g K sc tr ti l c) (h0 : 0 ≤ i) (h1 : i < K 8) : ax_F (m + 1) 63 [ax_A (some sc), ax_I (Int32.ofInt i)] (cH g K s) = some (.inl (some (ax_I (Int32.ofInt (s.2.2.1 i.toNat)))), cH g K s) := by
  have k8 := h.2.2.1
  rw [Schema_nextPart_F]
  unfold Schema_nextPart_b
  rw [if_neg (show ¬ Int32.ofInt i < 0 from zi_n0 h0 (by omega)), pl_gr ((cH_o S.2.1).trans S.1) (show _ = some (ax_A (some (K 2))) from rfl), Option.bind_some, cln g s (cH_k2 g h s), Option.bind_some, if_neg (show ¬ Int32.ofInt (K 8) ≤ Int32.ofInt i from by rw [zi_le (by omega) (by omega) (by omega) (by omega)]; omega), Option.bind_some, za_ld (cH_k2 g h s) h0 h1 (by omega), Option.bind_some]
  rfl
/-- the bytes row: one more, if there is room -/
theorem Ro_add {m : Nat} {g : ax_Hp} {K : Nat → Nat} {s : cS} {x : Int} (h : kOk K) (z0 : 0 ≤ s.2.2.2.2.1) (z1 : s.2.2.2.2.1 ≤ 1000) : ax_F (m + 1) 8 [ax_A (some (K 4)), ax_I (Int32.ofInt x)] (cH g K s) = some (.inl (some (ax_I (Int32.ofInt (if s.2.2.2.2.1 < K 9 then 1 else 0)))), cH g K (if s.2.2.2.2.1 < K 9 then cSz (cBy s s.2.2.2.2.1 x) (s.2.2.2.2.1 + 1) else s)) := by
  have k9 := h.2.2.2
  rw [Row_add_F]
  unfold Row_add_b
  rw [pl_gi (cH_k4 g h s) (show _ = some (ax_I (Int32.ofInt s.2.2.2.2.1)) from rfl), Option.bind_some, pl_gr (cH_k4 g h s) (show _ = some (ax_A (some (K 5))) from rfl), Option.bind_some, cln g s (cH_k5 g h s), Option.bind_some]
  by_cases d : s.2.2.2.2.1 < K 9
  · rw [if_pos d, if_pos d, if_pos (show Int32.ofInt s.2.2.2.2.1 < Int32.ofInt (K 9) from by rw [zi_lt (by omega) (by omega) (by omega) (by omega)]; exact d), Option.bind_some, Option.bind_some, cst_by h s _ x z0 d, Option.bind_some, pl_gi (cH_k4 g h _) (show _ = some (ax_I (Int32.ofInt s.2.2.2.2.1)) from rfl), Option.bind_some, show (1 : Int32) = Int32.ofInt 1 from rfl, zi_add, cpf_sz h, Option.bind_some]
    exact za_rz (Or.inr rfl)
  · rw [if_neg d, if_neg d, if_neg (show ¬ Int32.ofInt s.2.2.2.2.1 < Int32.ofInt (K 9) from by rw [zi_lt (by omega) (by omega) (by omega) (by omega)]; exact d)]
    exact za_rz (v := 0) (Or.inl rfl)
theorem Ro_size {m : Nat} {g : ax_Hp} {K : Nat → Nat} {s : cS} (h : kOk K) : ax_F (m + 1) 51 [ax_A (some (K 4))] (cH g K s) = some (.inl (some (ax_I (Int32.ofInt s.2.2.2.2.1))), cH g K s) := by
  rw [Row_size_F]
  unfold Row_size_b
  rw [pl_gi (cH_k4 g h s) (show _ = some (ax_I (Int32.ofInt s.2.2.2.2.1)) from rfl)]
  rfl
theorem Ro_set {m : Nat} {g : ax_Hp} {K : Nat → Nat} {s : cS} {i x : Int} (h : kOk K) (i0 : 0 ≤ i) (i1 : i ≤ 1000) (z0 : 0 ≤ s.2.2.2.2.1) (z1 : s.2.2.2.2.1 ≤ K 9) : ax_F (m + 1) 53 [ax_A (some (K 4)), ax_I (Int32.ofInt i), ax_I (Int32.ofInt x)] (cH g K s) = some (.inl none, cH g K (if i < s.2.2.2.2.1 then cBy s i x else s)) := by
  have k9 := h.2.2.2
  rw [Row_set_F]
  unfold Row_set_b
  rw [if_neg (show ¬ Int32.ofInt i < 0 from zi_n0 i0 (by omega)), pl_gi (cH_k4 g h s) (show _ = some (ax_I (Int32.ofInt s.2.2.2.2.1)) from rfl), Option.bind_some]
  by_cases d : i < s.2.2.2.2.1
  · rw [if_pos d, if_neg (show ¬ Int32.ofInt s.2.2.2.2.1 ≤ Int32.ofInt i from by rw [zi_le (by omega) (by omega) (by omega) (by omega)]; omega), pl_gr (cH_k4 g h s) (show _ = some (ax_A (some (K 5))) from rfl), Option.bind_some, cst_by h s i x i0 (by omega), Option.bind_some]
    rfl
  · rw [if_neg d, if_pos (show Int32.ofInt s.2.2.2.2.1 ≤ Int32.ofInt i from by rw [zi_le (by omega) (by omega) (by omega) (by omega)]; omega)]
    rfl
