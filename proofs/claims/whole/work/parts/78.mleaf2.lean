theorem Model_symbol_l {m : Nat} {h : ax_Hp} {s : mS} {t n x p0 : Int} {c : Int → Int} {k : Nat} (T : isT s t c) (ht : 0 ≤ t) (ht1 : t < 2) (hn : 0 ≤ n) (hn1 : n < 240) (hk : s.2.2.1 20 n.toNat = k) (hk8 : k ≤ 8) (hp : s.2.2.1 22 n.toNat = p0) (hp0 : 0 ≤ p0) (hp1 : p0 + k ≤ s.2.2.1 15 t.toNat) (hx : 0 ≤ x) (hx1 : x < 65536) : ∀ (r i fuel : Nat), i + r = k → r < fuel → Model_symbol_lp6 (ax_F m) fuel (some 24) (Int32.ofInt t) (Int32.ofInt n) (Int32.ofInt x) (Int32.ofInt (spIx c p0 x i)) (Int32.ofInt i) (mH h s) = some (.inl (some (ax_I (Int32.ofInt (spIx c p0 x k)))), mH h s) := by
  obtain ⟨z0, z1, hc, hc0, hb⟩ := T
  intro r
  induction r with
  | zero =>
    intro i fuel hi hf
    obtain ⟨fuel, rfl⟩ : ∃ g, fuel = g + 1 := ⟨fuel - 1, by omega⟩
    have hstep : Model_symbol_lp6 (ax_F m) (fuel + 1) = Model_symbol_bd6 (ax_F m) (Model_symbol_lp6 (ax_F m) fuel) := rfl
    rw [hstep]
    unfold Model_symbol_bd6
    simp (disch := omega) only [↓mgr_14, ↓mgr_20, ↓mgr_22, mld_14, mld_20, mld_22, Option.bind_some, ↓zi_lit, zi_add, zi_mul, zi_le, zi_eq, hk]
    rw [if_pos (by omega), show i = k by omega]
    rfl
  | succ r ih =>
    intro i fuel hi hf
    obtain ⟨fuel, rfl⟩ : ∃ g, fuel = g + 1 := ⟨fuel - 1, by omega⟩
    have hstep : Model_symbol_lp6 (ax_F m) (fuel + 1) = Model_symbol_bd6 (ax_F m) (Model_symbol_lp6 (ax_F m) fuel) := rfl
    rw [hstep]
    unfold Model_symbol_bd6
    have e := hc (p0 + i) (by omega) (by omega)
    have b := hb (p0 + i)
    have h1 := ih (i + 1) fuel (by omega) (by omega)
    rw [show ((i + 1 : Nat) : Int) = (i : Int) + 1 by omega] at h1
    simp (disch := omega) only [↓mgr_14, ↓mgr_20, ↓mgr_22, mld_14, mld_20, mld_22, Option.bind_some, ↓zi_lit, zi_add, zi_mul, zi_le, hk, hp]
    rw [if_neg (by omega)]
    simp (disch := omega) only [show 160 * t + p0 + (i : Int) = 160 * t + (p0 + i) by omega, e, zi_eq]
    rw [spIx_s] at h1
    unfold Model_symbol_jn48
    simp (disch := omega) only [↓zi_lit, zi_add]
    by_cases q : c (p0 + i) = x
    · rw [if_pos q]
      rw [if_pos q] at h1
      exact h1
    · rw [if_neg q]
      rw [if_neg q] at h1
      exact h1
theorem Model_symbol_z {m : Nat} {h : ax_Hp} {s : mS} {t n x p0 : Int} {c : Int → Int} {k : Nat} (T : isT s t c) (ht : 0 ≤ t) (ht1 : t < 2) (hn : 0 ≤ n) (hn1 : n < 240) (hk : s.2.2.1 20 n.toNat = k) (hk8 : k ≤ 8) (hp : s.2.2.1 22 n.toNat = p0) (hp0 : 0 ≤ p0) (hp1 : p0 + k ≤ s.2.2.1 15 t.toNat) (hx : 0 ≤ x) (hx1 : x < 65536) : ax_F (m + 1) 163 [ax_A (some 24), ax_I (Int32.ofInt t), ax_I (Int32.ofInt n), ax_I (Int32.ofInt x)] (mH h s) = some (.inl (some (ax_I (Int32.ofInt (spIx c p0 x k)))), mH h s) := by
  rw [Model_symbol_F]
  unfold Model_symbol_b
  exact Model_symbol_l (m := m) T ht ht1 hn hn1 hk hk8 hp hp0 hp1 hx hx1 k 0 ax_fuel (by omega) (by unfold ax_fuel; omega)
theorem Model_readRow_l {m : Nat} {h : ax_Hp} {s : mS} {v : Int → Int} (V : isV s v) : ∀ (r fuel : Nat) (q : Int), 0 ≤ q → q + r < 500000 → r ≤ 12 → r < fuel → ∃ n : Int, Model_readRow_lp21 (ax_F (m + 2)) fuel (some 24) (Int32.ofInt q) (Int32.ofInt (12 - r)) (mH h s) = some (.inl (some (ax_I (Int32.ofInt (spStr v r q)))), mH h (mL s n)) ∧ 0 ≤ n ∧ n ≤ 12 ∧ (0 ≤ spStr v r q → spStr v r q = q + (n - (12 - r)) + 1) := by
  intro r
  induction r with
  | zero =>
    intro fuel q hq hq1 hr hf
    obtain ⟨fuel, rfl⟩ : ∃ g, fuel = g + 1 := ⟨fuel - 1, by omega⟩
    have hstep : Model_readRow_lp21 (ax_F (m + 2)) (fuel + 1) = Model_readRow_bd21 (ax_F (m + 2)) (Model_readRow_lp21 (ax_F (m + 2)) fuel) := rfl
    have b := isV_b V q
    have V' : isV (mL s (12 - ((0 : Nat) : Int))) v := isV_of V rfl rfl rfl rfl rfl rfl
    refine ⟨12 - ((0 : Nat) : Int), ?_, by omega, by omega, ?_⟩
    · rw [hstep]
      unfold Model_readRow_bd21 Model_readRow_jn54
      rw [spStr_0]
      rw [mS_on, pl_ci (Model_see_z V hq (by omega)), mS_on, pl_ci (Model_see_z V hq (by omega))]
      simp (disch := omega) only [mpf_37, mS_on, Option.bind_some, ↓zi_lit, zi_neg, zi_add, zi_sub, zi_le, zi_eq, Int.reduceNeg, zl_of32]
      rw [pl_ci (Model_see_z V' hq (by omega))]
      simp (disch := omega) only [zi_eq, Int.reduceNeg]
      by_cases c1 : v q = 34
      · rw [if_pos c1, if_pos c1, if_pos c1]; rfl
      · rw [if_neg c1, if_neg c1, if_neg c1]
        by_cases c2 : v q = 0
        · rw [if_pos c2]; rfl
        · rw [if_neg c2, if_pos (by omega)]; rfl
    · rw [spStr_0]
      split <;> intro h <;> omega
  | succ r ih =>
    intro fuel q hq hq1 hr hf
    obtain ⟨fuel, rfl⟩ : ∃ g, fuel = g + 1 := ⟨fuel - 1, by omega⟩
    have hstep : Model_readRow_lp21 (ax_F (m + 2)) (fuel + 1) = Model_readRow_bd21 (ax_F (m + 2)) (Model_readRow_lp21 (ax_F (m + 2)) fuel) := rfl
    have b := isV_b V q
    by_cases c1 : v q = 34 ∨ v q = 0
    · have V' : isV (mL s (12 - ((r + 1 : Nat) : Int))) v := isV_of V rfl rfl rfl rfl rfl rfl
      refine ⟨12 - ((r + 1 : Nat) : Int), ?_, by omega, by omega, ?_⟩
      · rw [hstep]
        unfold Model_readRow_bd21 Model_readRow_jn54
        rw [spStr_s]
        rw [mS_on, pl_ci (Model_see_z V hq (by omega)), mS_on, pl_ci (Model_see_z V hq (by omega))]
        simp (disch := omega) only [mpf_37, mS_on, Option.bind_some, ↓zi_lit, zi_neg, zi_add, zi_sub, zi_le, zi_eq, Int.reduceNeg, zl_of32]
        rw [pl_ci (Model_see_z V' hq (by omega))]
        simp (disch := omega) only [zi_eq, Int.reduceNeg]
        by_cases c2 : v q = 34
        · rw [if_pos c2, if_pos c2, if_pos c2]; rfl
        · rw [if_neg c2, if_neg c2, if_neg c2, if_pos (by omega), if_pos (by omega)]; rfl
      · rw [spStr_s]
        rcases c1 with c1 | c1
        · rw [if_pos c1]; intro _; omega
        · rw [if_neg (by omega), if_pos c1]; intro _; omega
    · obtain ⟨n, e, n0, n1, n2⟩ := ih fuel (q + 1) (by omega) (by omega) (by omega) (by omega)
      refine ⟨n, ?_, n0, n1, ?_⟩
      · rw [hstep]
        unfold Model_readRow_bd21
        rw [spStr_s]
        rw [mS_on, pl_ci (Model_see_z V hq (by omega)), mS_on, pl_ci (Model_see_z V hq (by omega))]
        simp (disch := omega) only [↓zi_lit, zi_add, zi_le, zi_eq, Int.reduceNeg]
        have h34 : ¬ v q = 34 := fun z => c1 (Or.inl z)
        have h0 : ¬ v q = 0 := fun z => c1 (Or.inr z)
        rw [if_neg h34, if_neg h34, if_neg h0, if_neg h0, if_neg (show ¬ (12 : Int) ≤ 12 - ((r + 1 : Nat) : Int) by omega)]
        rw [show (12 : Int) - ((r + 1 : Nat) : Int) + 1 = 12 - (r : Int) by omega]
        exact e
      · rw [spStr_s]
        rw [if_neg (by omega), if_neg (by omega)]
        intro h
        have := n2 h
        omega
theorem Model_readRow_z {m : Nat} {h : ax_Hp} {s : mS} {v : Int → Int} {q : Int} (V : isV s v) (hq : 0 ≤ q) (hq1 : q < 400000) : ∃ n : Int, ax_F (m + 3) 164 [ax_A (some 24), ax_I (Int32.ofInt q)] (mH h s) = some (.inl (some (ax_I (Int32.ofInt (if v q = 34 then spStr v 12 (q + 1) else -1 - q)))), mH h (mL s n)) ∧ (0 ≤ (if v q = 34 then spStr v 12 (q + 1) else -1 - q) → 0 ≤ n ∧ n ≤ 12 ∧ (if v q = 34 then spStr v 12 (q + 1) else -1 - q) = q + n + 2) := by
  have b := isV_b V q
  rw [Model_readRow_F]
  unfold Model_readRow_b
  rw [mS_on, pl_ci (Model_see_z V hq (by omega))]
  simp (disch := omega) only [↓zi_lit, zi_neg, zi_add, zi_sub, zi_eq, Int.reduceNeg]
  by_cases c : v q = 34
  · rw [if_pos c, if_pos c]
    obtain ⟨n, e, n0, n1, n2⟩ := Model_readRow_l (m := m) (h := h) V 12 ax_fuel (q + 1) (by omega) (by omega) (by omega) (by unfold ax_fuel; omega)
    refine ⟨n, e, fun k => ⟨n0, n1, ?_⟩⟩
    have := n2 k
    omega
  · rw [if_neg c, if_neg c]
    refine ⟨s.2.1, rfl, fun k => ?_⟩
    omega
theorem Model_readNumber_l {m : Nat} {h : ax_Hp} {s : mS} {v : Int → Int} {lim p0 : Int} {less : Int} (V : isV s v) (hl : lim = -9223372036854775808 ∨ lim = -9223372036854775807 ∨ lim = -2147483648 ∨ lim = -2147483647) (hless : less = 0 ∨ less = 1) : ∀ (f fuel : Nat) (q a : Int), 0 ≤ q → q + f < 500000 → f ≤ 20 → f < fuel → lim ≤ a → a ≤ 0 → (f < 20 → (10 : Int) ^ (19 - f) ≤ -a) → (f = 20 → a = 0 ∧ 49 ≤ v q) →
    Model_readNumber_lp117 (ax_F (m + 2)) fuel (some 24) (Int32.ofInt p0) (Int32.ofInt q) (Int32.ofInt less) (Int32.ofInt (v q)) (Int64.ofInt lim) (Int64.ofInt a) 0 (mH h s) = some (.inl (some (ax_I (Int32.ofInt (spNm v lim f q a).1))), mH h (if 0 ≤ (spNm v lim f q a).1 then mL s (if less = 0 then -(spNm v lim f q a).2 else (spNm v lim f q a).2) else s)) := by
  intro f
  induction f with
  | zero =>
    intro fuel q a hq hq1 hf hfu h1 h2 h3 h4
    have := h3 (by omega)
    rw [show (10 : Int) ^ (19 - 0) = 10000000000000000000 from by decide] at this
    omega
  | succ f ih =>
    intro fuel q a hq hq1 hf hfu h1 h2 h3 h4
    obtain ⟨fuel, rfl⟩ : ∃ g, fuel = g + 1 := ⟨fuel - 1, by omega⟩
    have hstep : Model_readNumber_lp117 (ax_F (m + 2)) (fuel + 1) = Model_readNumber_bd117 (ax_F (m + 2)) (Model_readNumber_lp117 (ax_F (m + 2)) fuel) := rfl
    have b := isV_b V q
    rw [hstep, spNm_s]
    unfold Model_readNumber_bd117
    by_cases d : isDg (v q)
    · obtain ⟨d0, d1⟩ := d
      have e1 : 0 ≤ lg_cmp (Int64.ofInt a) ((Int64.ofInt lim + Int64.ofInt (v q - 48)) / 10) ↔ ¬ (10 * a - (v q - 48) < lim) := by
        rw [zl_cmp_ge, zl_add, zl_div10 (by omega) (by omega)]
        have t1 := @tdiv10 a (lim + (v q - 48)) (by omega)
        have t2 : (lim + (v q - 48)).tdiv 10 ≤ 0 ∧ -9223372036854775808 ≤ (lim + (v q - 48)).tdiv 10 := by
          have t3 := @tdiv10 0 (lim + (v q - 48)) (by omega)
          have t4 := @tdiv10 (-9223372036854775809) (lim + (v q - 48)) (by omega)
          omega
        rw [zl_le (by omega) (by omega) (by omega) (by omega), t1]
        omega
      rw [if_pos (show isDg (v q) from ⟨d0, d1⟩)]
      unfold Model_readNumber_jn141 ax_nzl
      rw [if_neg (show ¬ (10 : Int64) = 0 from by decide)]
      simp (disch := omega) only [mS_on, ↓zi_lit, zi_neg, zi_add, zi_sub, zi_lt, ↓reduceIte, eq_self, Int.reduceNeg, zl_of32]
      rw [if_neg (show ¬ v q < 48 by omega), if_neg (show ¬ 57 < v q by omega)]
      by_cases cl : 10 * a - (v q - 48) < lim
      · rw [if_pos cl]
        rw [if_neg (show ¬ Int32.ofInt 0 ≤ lg_cmp (Int64.ofInt a) ((Int64.ofInt lim + Int64.ofInt (v q - 48)) / 10) from fun z => (e1.mp z) cl)]
        rw [if_neg (by show ¬ 0 ≤ -1 - q; omega)]
        rfl
      · rw [if_neg cl]
        rw [if_pos (show Int32.ofInt 0 ≤ lg_cmp (Int64.ofInt a) ((Int64.ofInt lim + Int64.ofInt (v q - 48)) / 10) from e1.mpr cl)]
        rw [pl_ci (Model_see_z V (by omega) (by omega))]
        rw [show (10 : Int64) * Int64.ofInt a - Int64.ofInt (v q - 48) = Int64.ofInt (10 * a - (v q - 48)) from by rw [zl_lit, zl_mul, zl_sub]]
        refine ih fuel (q + 1) (10 * a - (v q - 48)) (by omega) (by omega) (by omega) (by omega) (by omega) (by omega) (fun hf2 => ?_) (fun hf2 => by omega)
        by_cases hf3 : f + 1 = 20
        · obtain ⟨ha, hb⟩ := h4 hf3
          rw [show 19 - f = 0 by omega, ha]
          omega
        · have := h3 (by omega)
          rw [show 19 - f = (19 - (f + 1)) + 1 by omega, Int.pow_succ]
          omega
    · rw [if_neg d]
      unfold Model_readNumber_jn193 Model_readNumber_jn207
      have hs : ax_ri (Int32.ofInt q) (mH h (mL s (if less = 0 then -a else a))) = some (.inl (some (ax_I (Int32.ofInt (q, a).1))), mH h (if 0 ≤ (q, a).1 then mL s (if less = 0 then -(q, a).2 else (q, a).2) else s)) := by
        show ax_ri _ _ = some (Sum.inl (some (ax_I (Int32.ofInt q))), mH h (if 0 ≤ q then mL s (if less = 0 then -a else a) else s))
        rw [if_pos hq]
        rfl
      simp (disch := omega) only [mpf_37, Option.bind_some, ↓zi_lit, zi_lt, zi_eq, ↓reduceIte, eq_self, zl_neg]
      refine Eq.trans ?_ hs
      by_cases d1 : v q < 48
      · rw [if_pos d1]
        by_cases l0 : less = 0
        · rw [if_pos l0, if_pos l0]
        · rw [if_neg l0, if_neg l0]
      · rw [if_neg d1, if_pos (show 57 < v q by omega)]
        by_cases l0 : less = 0
        · rw [if_pos l0, if_pos l0]
        · rw [if_neg l0, if_neg l0]
theorem Model_readNumber_0 {m : Nat} {h : ax_Hp} {s : mS} {v : Int → Int} {q lim : Int} (V : isV s v) (hl : lim = -9223372036854775808 ∨ lim = -9223372036854775807 ∨ lim = -2147483648 ∨ lim = -2147483647) (hq : 0 ≤ q) (hq1 : q < 400000) (e : v q = 48) : Model_readNumber_lp117 (ax_F (m + 2)) ax_fuel (some 24) (Int32.ofInt q) (Int32.ofInt q) 0 (Int32.ofInt (v q)) (Int64.ofInt lim) (Int64.ofInt 0) 1 (mH h s) = some (.inl (some (ax_I (Int32.ofInt (q + 1)))), mH h (mL s 0)) := by
  have b1 := isV_b V (q + 1)
  have hf : Model_readNumber_lp117 (ax_F (m + 2)) ax_fuel = Model_readNumber_bd117 (ax_F (m + 2)) (Model_readNumber_bd117 (ax_F (m + 2)) (Model_readNumber_lp117 (ax_F (m + 2)) 999999999998)) := rfl
  rw [hf, e]
  generalize Model_readNumber_lp117 (ax_F (m + 2)) 999999999998 = K
  have e1 : 0 ≤ lg_cmp (Int64.ofInt 0) ((Int64.ofInt lim + Int64.ofInt (48 - 48)) / 10) := by
    rw [zl_cmp_ge, zl_add, zl_div10 (by omega) (by omega)]
    have t3 := @tdiv10 0 (lim + (48 - 48)) (by omega)
    have t4 := @tdiv10 (-9223372036854775809) (lim + (48 - 48)) (by omega)
    rw [zl_le (by omega) (by omega) (by omega) (by omega), t3]
    omega
  unfold Model_readNumber_bd117 Model_readNumber_jn141 ax_nzl Model_readNumber_jn193 Model_readNumber_jn207
  rw [if_neg (show ¬ (10 : Int64) = 0 from by decide)]
  simp (disch := omega) only [mpf_37, mS_on, Option.bind_some, ↓zi_lit, zi_neg, zi_add, zi_sub, zi_lt, zi_eq, ↓reduceIte, eq_self, Int.reduceLT, Int.reduceEq, Int.reduceNeg, Int.reduceSub, zl_of32, zl_neg]
  rw [if_neg (show ¬ q < q by omega), if_pos (show Int32.ofInt 0 ≤ lg_cmp (Int64.ofInt 0) ((Int64.ofInt lim + Int64.ofInt 0) / 10) from e1), pl_ci (Model_see_z V (by omega) (by omega))]
  have z : (10 : Int64) * Int64.ofInt 0 - Int64.ofInt 0 = Int64.ofInt 0 := by decide
  rw [z]
  simp (disch := omega) only [mpf_37, mS_on, Option.bind_some, zi_sub, zi_lt, Int.reduceNeg, zl_of32, zl_neg]
  by_cases d1 : v (q + 1) < 48
  · rw [if_pos d1]; rfl
  · rw [if_neg d1]
    by_cases d2 : 57 < v (q + 1)
    · rw [if_pos d2]; rfl
    · rw [if_neg d2, if_pos (show q < q + 1 by omega)]; rfl
theorem Model_readNumber_z {m : Nat} {h : ax_Hp} {s : mS} {v : Int → Int} {q : Int} {wide : Bool} {w : Int32} (hw : w = 0 ↔ wide = false) (V : isV s v) (hq : 0 ≤ q) (hq1 : q < 400000) : ax_F (m + 3) 165 [ax_A (some 24), ax_I (Int32.ofInt q), ax_I w] (mH h s) = some (.inl (some (ax_I (Int32.ofInt (spNum v wide q).1))), mH h (if 0 ≤ (spNum v wide q).1 then mL s (spNum v wide q).2 else s)) := by
  have b := isV_b V q
  have b1 := isV_b V (q + 1)
  rw [Model_readNumber_F]
  unfold Model_readNumber_b Model_readNumber_jn17 Model_readNumber_jn30 Model_readNumber_jn65
  rw [mS_on, pl_ci (Model_see_z V hq (by omega))]
  unfold spNum
  have fin : ∀ x : Int, 0 ≤ x → ax_ri (Int32.ofInt (-1 - x)) (mH h s) = some (Sum.inl (some (ax_I (Int32.ofInt (-1 - x, (0 : Int)).1))), mH h (if 0 ≤ (-1 - x, (0 : Int)).1 then mL s (-1 - x, (0 : Int)).2 else s)) := fun x hx => by
    rw [if_neg (show ¬ 0 ≤ -1 - x by omega)]
    rfl
  by_cases c : v q = 45
  · rw [if_pos (show Int32.ofInt (v q) = 45 from by rw [c]; rfl), if_neg (show ¬ (1 : Int32) = 0 from by decide), if_pos c, mS_on]
    simp (disch := omega) only [↓zi_lit, zi_neg, zi_add, zi_sub, zi_eq, ↓reduceIte, Int.reduceEq, Int.reduceNeg]
    rw [pl_ci (Model_see_z V (by omega) (by omega))]
    simp (disch := omega) only [zi_lt, zi_eq, Int.reduceNeg]
    by_cases d : isDg (v (q + 1))
    · by_cases d48 : v (q + 1) = 48
      · rw [if_neg (show ¬ v (q + 1) < 48 by omega), if_neg (show ¬ 57 < v (q + 1) by omega), if_pos d48, if_pos (show ¬ isDg (v (q + 1)) ∨ v (q + 1) = 48 from Or.inr d48)]
        exact fin (q + 1) (by omega)
      · rw [if_neg (show ¬ v (q + 1) < 48 by omega), if_neg (show ¬ 57 < v (q + 1) by omega), if_neg d48, if_neg (show ¬ (¬ isDg (v (q + 1)) ∨ v (q + 1) = 48) from fun z => z.elim (fun y => y d) d48)]
        have key := fun (lim : Int) (hl : lim = -9223372036854775808 ∨ lim = -9223372036854775807 ∨ lim = -2147483648 ∨ lim = -2147483647) => Model_readNumber_l (m := m) (h := h) (p0 := q) (less := 1) V hl (Or.inr rfl) 20 ax_fuel (q + 1) 0 (by omega) (by omega) (by omega) (by unfold ax_fuel; omega) (by omega) (by omega) (fun z => by omega) (fun _ => ⟨rfl, by omega⟩)
        unfold Model_readNumber_jn69 Model_readNumber_jn82 Model_readNumber_jn98 Model_readNumber_jn115
        simp (disch := omega) only [zi_lit, zl_lit, zl_neg, zi_eq, ↓reduceIte, Int.reduceEq, Int.reduceNeg, d48] at key ⊢
        cases wide with
        | true =>
          rw [if_neg (show ¬ w = Int32.ofInt 0 from fun z => by have := hw.mp z; simp at this)]
          exact key (-9223372036854775808) (Or.inl rfl)
        | false =>
          rw [if_pos (show w = Int32.ofInt 0 from hw.mpr rfl)]
          exact key (-2147483648) (Or.inr (Or.inr (Or.inl rfl)))
    · rw [if_pos (show (¬ isDg (v (q + 1)) ∨ v (q + 1) = 48) from Or.inl d)]
      refine Eq.trans ?_ (fin (q + 1) (by omega))
      by_cases d1 : v (q + 1) < 48
      · rw [if_pos d1]
      · rw [if_neg d1, if_pos (show 57 < v (q + 1) by omega)]
  · rw [if_neg (show ¬ Int32.ofInt (v q) = 45 from by rw [show (45 : Int32) = Int32.ofInt 45 from rfl, zi_eq (by omega) (by omega) (by omega) (by omega)]; exact c), if_pos (show (0 : Int32) = 0 from rfl), if_neg c, mS_on]
    simp (disch := omega) only [↓zi_lit, zi_neg, zi_add, zi_sub, ↓reduceIte, eq_self, Int.reduceNeg]
    rw [show q + 0 = q by omega, pl_ci (Model_see_z V (by omega) (by omega))]
    simp (disch := omega) only [zi_lt, Int.reduceNeg]
    by_cases d : isDg (v q)
    · rw [if_neg (show ¬ v q < 48 by omega), if_neg (show ¬ 57 < v q by omega), if_neg (show ¬ ¬ isDg (v q) from fun z => z d)]
      unfold Model_readNumber_jn69 Model_readNumber_jn82 Model_readNumber_jn98 Model_readNumber_jn115
      by_cases d48 : v q = 48
      · rw [if_pos d48]
        have key := fun (lim : Int) (hl : lim = -9223372036854775808 ∨ lim = -9223372036854775807 ∨ lim = -2147483648 ∨ lim = -2147483647) => Model_readNumber_0 (m := m) (h := h) V hl hq hq1 d48
        have fin2 : mH h (if 0 ≤ ((q + 1, (0 : Int)) : Int × Int).1 then mL s ((q + 1, (0 : Int)) : Int × Int).2 else s) = mH h (mL s 0) := by rw [if_pos (show 0 ≤ q + 1 by omega)]
        rw [fin2]
        simp (disch := omega) only [zi_lit, zl_lit, zl_neg, zl_add, ↓reduceIte, eq_self, Int.reduceNeg, Int.reduceAdd, d48] at key ⊢
        cases wide with
        | true =>
          rw [if_neg (show ¬ w = Int32.ofInt 0 from fun z => by have := hw.mp z; simp at this)]
          exact key (-9223372036854775807) (Or.inr (Or.inl rfl))
        | false =>
          rw [if_pos (show w = Int32.ofInt 0 from hw.mpr rfl)]
          exact key (-2147483647) (Or.inr (Or.inr (Or.inr rfl)))
      · rw [if_neg d48]
        have key := fun (lim : Int) (hl : lim = -9223372036854775808 ∨ lim = -9223372036854775807 ∨ lim = -2147483648 ∨ lim = -2147483647) => Model_readNumber_l (m := m) (h := h) (p0 := q) (less := 0) V hl (Or.inl rfl) 20 ax_fuel q 0 (by omega) (by omega) (by omega) (by unfold ax_fuel; omega) (by omega) (by omega) (fun z => by omega) (fun _ => ⟨rfl, by omega⟩)
        simp (disch := omega) only [zi_lit, zl_lit, zl_neg, zl_add, zi_eq, ↓reduceIte, eq_self, Int.reduceNeg, Int.reduceAdd, d48] at key ⊢
        cases wide with
        | true =>
          rw [if_neg (show ¬ w = Int32.ofInt 0 from fun z => by have := hw.mp z; simp at this)]
          exact key (-9223372036854775807) (Or.inr (Or.inl rfl))
        | false =>
          rw [if_pos (show w = Int32.ofInt 0 from hw.mpr rfl)]
          exact key (-2147483647) (Or.inr (Or.inr (Or.inr rfl)))
    · rw [if_pos (show ¬ isDg (v q) from d)]
      refine Eq.trans ?_ (fin q (by omega))
      by_cases d1 : v q < 48
      · rw [if_pos d1]
      · rw [if_neg d1, if_pos (show 57 < v q by omega)]
