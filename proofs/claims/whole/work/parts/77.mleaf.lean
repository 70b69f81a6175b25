/-- table t of the store holds the text c -/
def isT (s : mS) (t : Int) (c : Int → Int) : Prop := 0 ≤ s.2.2.1 15 t.toNat ∧ s.2.2.1 15 t.toNat ≤ 160 ∧ (∀ p : Int, 0 ≤ p → p < s.2.2.1 15 t.toNat → s.2.2.1 14 (160 * t + p).toNat = c p) ∧ (∀ p : Int, s.2.2.1 15 t.toNat ≤ p → c p = 0) ∧ (∀ p : Int, 0 ≤ c p ∧ c p < 128)
theorem isT_of {s s' : mS} {t : Int} {c : Int → Int} (h : isT s t c) (e1 : s'.2.2.1 15 = s.2.2.1 15) (e2 : s'.2.2.1 14 = s.2.2.1 14) : isT s' t c := by
  unfold isT
  rw [e1, e2]
  exact h
/-- what see shows is v -/
def isV (s : mS) (v : Int → Int) : Prop := (s.1 29 = 0 ∧ (s.1 30 = 0 ∨ s.1 30 = 1) ∧ isT s (s.1 30) v) ∨ (s.1 29 = 1 ∧ 0 ≤ s.1 1 ∧ s.1 1 ≤ 160 ∧ (∀ p : Int, 0 ≤ p → p < s.1 1 → s.2.2.1 2 p.toNat = v p) ∧ (∀ p : Int, s.1 1 ≤ p → v p = 0) ∧ (∀ p : Int, 0 ≤ v p ∧ v p < 128))
theorem isV_of {s s' : mS} {v : Int → Int} (h : isV s v) (e1 : s'.2.2.1 15 = s.2.2.1 15) (e2 : s'.2.2.1 14 = s.2.2.1 14) (e3 : s'.2.2.1 2 = s.2.2.1 2) (e4 : s'.1 29 = s.1 29) (e5 : s'.1 30 = s.1 30) (e6 : s'.1 1 = s.1 1) : isV s' v := by
  unfold isV isT
  rw [e1, e2, e3, e4, e5, e6]
  exact h
theorem isV_b {s : mS} {v : Int → Int} (h : isV s v) (p : Int) : 0 ≤ v p ∧ v p < 128 := by
  rcases h with ⟨-, -, h⟩ | ⟨-, -, -, -, -, h⟩
  · exact h.2.2.2.2 p
  · exact h p
theorem Model_look_z {n : Nat} {h : ax_Hp} {s : mS} {t p : Int} {c : Int → Int} (T : isT s t c) (ht : 0 ≤ t) (ht1 : t < 2) (hp : 0 ≤ p) (hp1 : p < 1000000) : ax_F (n + 1) 155 [ax_A (some 24), ax_I (Int32.ofInt t), ax_I (Int32.ofInt p)] (mH h s) = some (.inl (some (ax_I (Int32.ofInt (c p)))), mH h s) := by
  obtain ⟨z0, z1, hc, hc0, hb⟩ := T
  have := hb p
  rw [Model_look_F]
  unfold Model_look_b
  simp (disch := omega) only [↓mgr_14, ↓mgr_15, mld_14, mld_15, Option.bind_some, ↓zi_lit, zi_add, zi_mul, zi_le]
  by_cases q : s.2.2.1 15 t.toNat ≤ p
  · rw [if_pos q, hc0 p q, za_rc (by omega) (by omega)]
  · rw [if_neg q, hc p hp (by omega), za_rc (by omega) (by omega)]
theorem Model_see_z {n : Nat} {h : ax_Hp} {s : mS} {p : Int} {v : Int → Int} (V : isV s v) (hp : 0 ≤ p) (hp1 : p < 1000000) : ax_F (n + 2) 158 [ax_A (some 24), ax_I (Int32.ofInt p)] (mH h s) = some (.inl (some (ax_I (Int32.ofInt (v p)))), mH h s) := by
  have := isV_b V p
  rw [Model_see_F]
  unfold Model_see_b
  rcases V with ⟨e1, e2, T⟩ | ⟨e1, e2, e3, e4, e5, -⟩
  · simp (disch := omega) only [↓mgi_1, ↓mgi_29, ↓mgi_30, ↓mgr_2, mS_on, Option.bind_some, ↓zi_lit, ↓reduceIte, eq_self, e1]
    rw [pl_ci (Model_look_z T (by omega) (by omega) hp hp1), za_rc (by omega) (by omega)]
  · simp (disch := omega) only [↓mgi_1, ↓mgi_29, ↓mgi_30, ↓mgr_2, mld_2, mS_on, Option.bind_some, ↓zi_lit, zi_le, zi_eq, ↓reduceIte, Int.reduceEq, e1]
    by_cases q : s.1 1 ≤ p
    · rw [if_pos q, e5 p q, za_rc (by omega) (by omega)]
    · rw [if_neg q, e4 p hp (by omega), za_rc (by omega) (by omega)]
/-- longs -/
theorem zl_lit (n : Nat) : (OfNat.ofNat n : Int64) = Int64.ofInt (OfNat.ofNat n : Int) := (Int64.ofInt_eq_ofNat).symm
theorem zl_neg (a : Int) : - Int64.ofInt a = Int64.ofInt (-a) := (Int64.ofInt_neg a).symm
theorem zl_add (a b : Int) : Int64.ofInt a + Int64.ofInt b = Int64.ofInt (a + b) := (Int64.ofInt_add a b).symm
theorem zl_sub (a b : Int) : Int64.ofInt a - Int64.ofInt b = Int64.ofInt (a - b) := (Int64.ofInt_sub a b).symm
theorem zl_mul (a b : Int) : Int64.ofInt a * Int64.ofInt b = Int64.ofInt (a * b) := (Int64.ofInt_mul a b).symm
theorem zl_toInt {a : Int} (h1 : -9223372036854775808 ≤ a) (h2 : a < 9223372036854775808) : (Int64.ofInt a).toInt = a := Int64.toInt_ofInt_of_le h1 h2
theorem zl_of32 {a : Int} (h1 : -2147483648 ≤ a) (h2 : a < 2147483648) : (Int32.ofInt a).toInt64 = Int64.ofInt a := by
  rw [← Int64.toInt_inj, Int32.toInt_toInt64, zi_toInt h1 h2, zl_toInt (by omega) (by omega)]
theorem zl_cmp_ge (x y : Int64) : (0 ≤ lg_cmp x y) ↔ y ≤ x := by
  unfold lg_cmp
  by_cases c1 : x > y
  · rw [if_pos c1]
    exact ⟨fun _ => Int64.le_of_lt c1, fun _ => by decide⟩
  · rw [if_neg c1]
    by_cases c2 : x = y
    · rw [if_pos c2]
      exact ⟨fun _ => by rw [c2]; exact Int64.le_refl _, fun _ => by decide⟩
    · rw [if_neg c2]
      refine ⟨fun h => absurd h (by decide), fun h => ?_⟩
      have h1 := Int64.le_iff_toInt_le.mp h
      have h2 : ¬ y.toInt < x.toInt := fun q => c1 (Int64.lt_iff_toInt_lt.mpr q)
      have h3 : x.toInt ≠ y.toInt := fun q => c2 (Int64.toInt_inj.mp q)
      omega
theorem zl_le {a b : Int} (h1 : -9223372036854775808 ≤ a) (h2 : a < 9223372036854775808) (h3 : -9223372036854775808 ≤ b) (h4 : b < 9223372036854775808) : (Int64.ofInt a ≤ Int64.ofInt b) = (a ≤ b) := by
  rw [Int64.le_iff_toInt_le, zl_toInt h1 h2, zl_toInt h3 h4]
theorem zl_div10 {a : Int} (h1 : -9223372036854775808 ≤ a) (h2 : a < 9223372036854775808) : Int64.ofInt a / 10 = Int64.ofInt (a.tdiv 10) := by
  rw [← Int64.toInt_inj, Int64.toInt_div, zl_toInt h1 h2, show (10 : Int64).toInt = 10 from rfl]
  have e : a.tdiv 10 = if 0 ≤ a then a / 10 else -((-a) / 10) := by
    split
    · rw [Int.tdiv_eq_ediv_of_nonneg (by omega)]
    · have : a = -(-a) := by omega
      rw [this, Int.neg_tdiv, Int.tdiv_eq_ediv_of_nonneg (by omega)]
      simp
  have b : -9223372036854775808 ≤ a.tdiv 10 ∧ a.tdiv 10 < 9223372036854775808 := by
    rw [e]; split <;> omega
  rw [zl_toInt b.1 b.2]
  exact Int.bmod_eq_of_le (by omega) (by omega)
theorem tdiv10 {a b : Int} (hb : b ≤ 0) : b.tdiv 10 ≤ a ↔ b ≤ 10 * a := by
  have e : b.tdiv 10 = -((-b) / 10) := by
    have : b = -(-b) := by omega
    rw [this, Int.neg_tdiv, Int.tdiv_eq_ediv_of_nonneg (by omega)]
    simp
  rw [e]
  omega
