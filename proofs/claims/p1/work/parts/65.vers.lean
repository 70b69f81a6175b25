/-- any int is the int of a whole number in its bounds -/
theorem zi_of (n : Int32) : ∃ z : Int, n = Int32.ofInt z ∧ -2147483648 ≤ z ∧ z < 2147483648 :=
  ⟨n.toInt, (Int32.ofInt_toInt n).symm, Int32.le_toInt n, Int32.toInt_lt n⟩
def vOk (z w : Int) (c : Nat → Int) : Prop := 0 ≤ z ∧ z ≤ 3 ∧ 0 ≤ w ∧ w < c z.toNat
theorem Model_isSubject_z {m : Nat} {z : Int} {h : ax_Hp} (z0 : -2147483648 ≤ z) (z1 : z < 2147483648) : ax_F (m + 1) 150 [ax_I (Int32.ofInt z)] h = some (.inl (some (ax_I (Int32.ofInt (if 0 ≤ z ∧ z ≤ 3 then 1 else 0)))), h) := by
  rw [Model_isSubject_F]
  unfold Model_isSubject_b
  simp (disch := omega) only [↓zi_lit, zi_lt]
  by_cases c1 : z < 0
  · rw [if_pos c1, if_neg (by omega), za_rz (Or.inl rfl)]
  · rw [if_neg c1]
    by_cases c2 : 3 < z
    · rw [if_pos c2, if_neg (by omega), za_rz (Or.inl rfl)]
    · rw [if_neg c2, if_pos (by omega), za_rz (Or.inr rfl)]
theorem Model_isVersion_y {m : Nat} {z w : Int} {h : ax_Hp} {s : mS} (z0 : -2147483648 ≤ z) (z1 : z < 2147483648) (w0 : -2147483648 ≤ w) (w1 : w < 2147483648) (hc : ∀ i, 0 ≤ s.2.2.1 11 i ∧ s.2.2.1 11 i ≤ 6) (hv : vOk z w (s.2.2.1 11)) : ax_F (m + 2) 187 [ax_A (some 24), ax_I (Int32.ofInt z), ax_I (Int32.ofInt w)] (mH h s) = some (.inl (some (ax_I (Int32.ofInt 1))), mH h s) := by
  obtain ⟨v1, v2, v3, v4⟩ := hv
  have := hc z.toNat
  rw [Model_isVersion_F]
  unfold Model_isVersion_b
  rw [pl_ci (Model_isSubject_z z0 z1), if_pos (show 0 ≤ z ∧ z ≤ 3 from ⟨v1, v2⟩)]
  simp (disch := omega) only [↓mgr_11, mld_11, Option.bind_some, ↓zi_lit, zi_lt, zi_le, zi_eq, ↓reduceIte, Int.reduceEq]
  rw [if_neg (by omega), if_neg (by omega), za_rz (Or.inr rfl)]
theorem Model_isVersion_n {m : Nat} {z w : Int} {h : ax_Hp} {s : mS} (z0 : -2147483648 ≤ z) (z1 : z < 2147483648) (w0 : -2147483648 ≤ w) (w1 : w < 2147483648) (hc : ∀ i, 0 ≤ s.2.2.1 11 i ∧ s.2.2.1 11 i ≤ 6) (hv : ¬ vOk z w (s.2.2.1 11)) : ax_F (m + 2) 187 [ax_A (some 24), ax_I (Int32.ofInt z), ax_I (Int32.ofInt w)] (mH h s) = some (.inl (some (ax_I (Int32.ofInt 0))), mH h s) := by
  have := hc z.toNat
  rw [Model_isVersion_F]
  unfold Model_isVersion_b
  rw [pl_ci (Model_isSubject_z z0 z1)]
  by_cases c : 0 ≤ z ∧ z ≤ 3
  · rw [if_pos c]
    simp (disch := omega) only [↓mgr_11, mld_11, Option.bind_some, ↓zi_lit, zi_lt, zi_le, zi_eq, ↓reduceIte, Int.reduceEq]
    skip
    by_cases c2 : w < 0
    · rw [if_pos c2, za_rz (Or.inl rfl)]
    · rw [if_neg c2, if_pos (by unfold vOk at hv; omega), za_rz (Or.inl rfl)]
  · rw [if_neg c]
    simp (disch := omega) only [↓zi_lit, ↓reduceIte, eq_self]
    rw [za_rz (Or.inl rfl)]
theorem zi_0 : (0 : Int32) = Int32.ofInt 0 := rfl
theorem thr_mH {h : ax_Hp} {s : mS} (hc : 58 ≤ h.1) : thr (mH h s) = mH (thr h) s := by
  refine Prod.ext rfl (Prod.ext rfl ?_)
  funext q
  show (if q = h.1 + 1 then none else if q = 24 then _ else if 25 ≤ q ∧ q ≤ 58 then _ else _) = if q = 24 then _ else if 25 ≤ q ∧ q ≤ 58 then _ else if q = h.1 + 1 then none else h.2.2 q
  by_cases c : q = h.1 + 1
  · rw [if_pos c, if_neg (by omega), if_neg (by omega), if_pos c]
  · rw [if_neg c, if_neg c]
theorem Model_reads_no {m : Nat} {z w w2 : Int} {h : ax_Hp} {s : mS} (z0 : -2147483648 ≤ z) (z1 : z < 2147483648) (w0 : -2147483648 ≤ w) (w1 : w < 2147483648) (x0 : -2147483648 ≤ w2) (x1 : w2 < 2147483648) (hc : ∀ i, 0 ≤ s.2.2.1 11 i ∧ s.2.2.1 11 i ≤ 6) (hv : ¬ (vOk z w (s.2.2.1 11) ∧ vOk z w2 (s.2.2.1 11))) : ax_F (m + 3) 186 [ax_A (some 24), ax_I (Int32.ofInt z), ax_I (Int32.ofInt w), ax_I (Int32.ofInt w2)] (mH h s) = some (.inl (some (ax_I 0)), mH h (mI s 0 1)) := by
  rw [Model_reads_F]
  unfold Model_reads_b
  rw [mS_on]
  by_cases c : vOk z w (s.2.2.1 11)
  · rw [pl_ci (Model_isVersion_y z0 z1 w0 w1 hc c), if_neg (by decide), mS_on, pl_ci (Model_isVersion_n z0 z1 x0 x1 hc (fun d => hv ⟨c, d⟩)), if_pos (show Int32.ofInt 0 = 0 from rfl)]
    unfold Model_reads_jn23 Model_reads_jn24
    simp (disch := omega) only [↓mgi_0, mpf_0, mS_on, Option.bind_some, ↓zi_lit, zi_add, zi_mul, mI_1, zi_le, ↓reduceIte, eq_self, Int.reduceLE]
    rfl
  · rw [pl_ci (Model_isVersion_n z0 z1 w0 w1 hc c), if_pos (show Int32.ofInt 0 = 0 from rfl)]
    unfold Model_reads_jn23 Model_reads_jn24
    simp (disch := omega) only [↓mgi_0, mpf_0, mS_on, Option.bind_some, ↓zi_lit, zi_add, zi_mul, mI_1, zi_le, ↓reduceIte, eq_self, Int.reduceLE]
    rfl
theorem Model_print_no {m : Nat} {z w : Int} {c : Int32} {h : ax_Hp} {s : mS} (z0 : -2147483648 ≤ z) (z1 : z < 2147483648) (w0 : -2147483648 ≤ w) (w1 : w < 2147483648) (hc : ∀ i, 0 ≤ s.2.2.1 11 i ∧ s.2.2.1 11 i ≤ 6) (hv : ¬ vOk z w (s.2.2.1 11)) : ax_F (m + 3) 188 [ax_A (some 24), ax_I (Int32.ofInt z), ax_I (Int32.ofInt w), ax_I c] (mH h s) = some (.inl (some (ax_I 0)), mH h (mI s 0 1)) := by
  rw [Model_print_F]
  unfold Model_print_b
  rw [mS_on]
  rw [pl_ci (Model_isVersion_n z0 z1 w0 w1 hc hv), if_pos (show Int32.ofInt 0 = 0 from rfl)]
  unfold Model_print_jn15
  simp (disch := omega) only [↓mgi_0, mpf_0, mS_on, Option.bind_some, ↓zi_lit, zi_add, zi_mul, mI_1, zi_le, ↓reduceIte, eq_self, Int.reduceLE]
  rfl
theorem Model_fingerprint_no {m : Nat} {z w : Int} {h : ax_Hp} {s : mS} (z0 : -2147483648 ≤ z) (z1 : z < 2147483648) (w0 : -2147483648 ≤ w) (w1 : w < 2147483648) (hc : ∀ i, 0 ≤ s.2.2.1 11 i ∧ s.2.2.1 11 i ≤ 6) (hv : ¬ vOk z w (s.2.2.1 11)) : ax_F (m + 3) 191 [ax_A (some 24), ax_I (Int32.ofInt z), ax_I (Int32.ofInt w)] (mH h s) = some (.inl (some (ax_L 0)), mH h (mI s 0 1)) := by
  rw [Model_fingerprint_F]
  unfold Model_fingerprint_b
  rw [mS_on]
  rw [pl_ci (Model_isVersion_n z0 z1 w0 w1 hc hv), if_pos (show Int32.ofInt 0 = 0 from rfl)]
  unfold Model_fingerprint_jn15
  simp (disch := omega) only [↓mgi_0, mpf_0, mS_on, Option.bind_some, ↓zi_lit, zi_add, zi_mul, mI_1, zi_le, ↓reduceIte, eq_self, Int.reduceLE]
  rfl
theorem Model_encode_no {m : Nat} {z w : Int} {h : ax_Hp} {s : mS} (z0 : -2147483648 ≤ z) (z1 : z < 2147483648) (w0 : -2147483648 ≤ w) (w1 : w < 2147483648) (hc : ∀ i, 0 ≤ s.2.2.1 11 i ∧ s.2.2.1 11 i ≤ 6) (hv : ¬ vOk z w (s.2.2.1 11)) : ax_F (m + 3) 192 [ax_A (some 24), ax_I (Int32.ofInt z), ax_I (Int32.ofInt w)] (mH h s) = some (.inl (some (ax_I 0)), mH h (mI s 0 1)) := by
  rw [Model_encode_F]
  unfold Model_encode_b
  rw [mS_on]
  rw [pl_ci (Model_isVersion_n z0 z1 w0 w1 hc hv), if_pos (show Int32.ofInt 0 = 0 from rfl)]
  unfold Model_encode_jn15
  simp (disch := omega) only [↓mgi_0, mpf_0, mS_on, Option.bind_some, ↓zi_lit, zi_neg, zi_add, zi_mul, mI_1, zi_le, ↓reduceIte, eq_self, Int.reduceLE, Int.reduceNeg]
  rfl
theorem Model_decode_no {m : Nat} {z w w2 : Int} {h : ax_Hp} {s : mS} (z0 : -2147483648 ≤ z) (z1 : z < 2147483648) (w0 : -2147483648 ≤ w) (w1 : w < 2147483648) (x0 : -2147483648 ≤ w2) (x1 : w2 < 2147483648) (hc : ∀ i, 0 ≤ s.2.2.1 11 i ∧ s.2.2.1 11 i ≤ 6) (hv : ¬ (vOk z w (s.2.2.1 11) ∧ vOk z w2 (s.2.2.1 11))) : ax_F (m + 3) 193 [ax_A (some 24), ax_I (Int32.ofInt z), ax_I (Int32.ofInt w), ax_I (Int32.ofInt w2)] (mH h s) = some (.inl (some (ax_I 0)), mH h (mI s 0 1)) := by
  rw [Model_decode_F]
  unfold Model_decode_b
  rw [mS_on]
  by_cases c : vOk z w (s.2.2.1 11)
  · rw [pl_ci (Model_isVersion_y z0 z1 w0 w1 hc c), if_neg (by decide), mS_on, pl_ci (Model_isVersion_n z0 z1 x0 x1 hc (fun d => hv ⟨c, d⟩)), if_pos (show Int32.ofInt 0 = 0 from rfl)]
    unfold Model_decode_jn23 Model_decode_jn24
    simp (disch := omega) only [↓mgi_0, mpf_0, mS_on, Option.bind_some, ↓zi_lit, zi_neg, zi_add, zi_mul, mI_1, zi_le, ↓reduceIte, eq_self, Int.reduceLE, Int.reduceNeg]
    rfl
  · rw [pl_ci (Model_isVersion_n z0 z1 w0 w1 hc c), if_pos (show Int32.ofInt 0 = 0 from rfl)]
    unfold Model_decode_jn23 Model_decode_jn24
    simp (disch := omega) only [↓mgi_0, mpf_0, mS_on, Option.bind_some, ↓zi_lit, zi_neg, zi_add, zi_mul, mI_1, zi_le, ↓reduceIte, eq_self, Int.reduceLE, Int.reduceNeg]
    rfl
