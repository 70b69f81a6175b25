theorem zl_ndu {n u : Nat} (hn : n ≤ 9223372036854775808) (h1 : 1 ≤ u) (hu : u < 9223372036854775808) : Int64.ofInt (-(n : Int)) / Int64.ofInt (u : Int) = Int64.ofInt (-((n / u : Nat) : Int)) := by
  obtain ⟨y, hy⟩ : ∃ y, y = n / u := ⟨_, rfl⟩
  have hle : y ≤ n := by rw [hy]; exact Nat.div_le_self _ _
  have e : (-(n : Int)).tdiv (u : Int) = -((y : Nat) : Int) := by
    rw [hy, Int.neg_tdiv, Int.tdiv_eq_ediv_of_nonneg (by omega)]
    rfl
  rw [← hy]
  clear hy
  rw [← Int64.toInt_inj, Int64.toInt_div, zl_toInt (by omega) (by omega), zl_toInt (by omega) (by omega), zl_toInt (by omega) (by omega), e]
  exact Int.bmod_eq_of_le (by omega) (by omega)
theorem zl_u0 {u : Nat} (h1 : 1 ≤ u) (hu : u < 9223372036854775808) : ¬ Int64.ofInt (u : Int) = 0 := fun z => by
  have := congrArg Int64.toInt z
  rw [zl_toInt (by omega) (by omega), show (0 : Int64).toInt = 0 from rfl] at this
  omega
theorem zl_up {u : Nat} (h1 : 1 ≤ u) (hu : u < 9223372036854775808) : ¬ (lg_cmp (Int64.ofInt (u : Int)) 0) ≤ 0 := by
  unfold lg_cmp
  rw [if_pos (show Int64.ofInt (u : Int) > 0 from by
    rw [gt_iff_lt, Int64.lt_iff_toInt_lt, zl_toInt (by omega) (by omega), show (0 : Int64).toInt = 0 from rfl]
    omega)]
  decide
theorem p10 : ∀ k : Nat, k ≤ 18 → 1 ≤ 10 ^ k ∧ 10 ^ k ≤ 1000000000000000000 := by decide
theorem zl_dg2 {n : Nat} (hn : n ≤ 9223372036854775808) : ((48 : Int64) - (Int64.ofInt (-(n : Int)) - Int64.ofInt (-(n : Int)) / 10 * 10)).toInt32 = Int32.ofInt (48 + ((n % 10 : Nat) : Int)) := by
  rw [zl_nd hn, show (10 : Int64) = Int64.ofInt 10 from rfl, zl_mul, zl_sub, show -(n : Int) - -((n / 10 : Nat) : Int) * 10 = -((n % 10 : Nat) : Int) by omega]
  have : ∀ k : Nat, k < 10 → ((48 : Int64) - Int64.ofInt (-(k : Int))).toInt32 = Int32.ofInt (48 + (k : Int)) := by decide
  exact this (n % 10) (by omega)
theorem nz10 (k : ax_O) : ax_nzl 10 k = k := by unfold ax_nzl; rw [if_neg (by decide)]
theorem fcN_0 (f : Nat) : fcN f 0 = 0 := by cases f <;> rfl
/-- the reference looks for a number's first figure -/
theorem Mn_1 {m n : Nat} {g : ax_Hp} (hn : n ≤ 9223372036854775808) : ∀ (f j fuel : Nat), f + j = 18 → f < fuel → Model_sayNumber_lp23 (ax_F m) fuel (some 24) (Int64.ofInt (-(n : Int))) (Int64.ofInt ((10 ^ j : Nat) : Int)) g = Model_sayNumber_lp45 (ax_F m) ax_fuel (some 24) (Int64.ofInt (-(n : Int))) (Int64.ofInt ((10 ^ (j + fcN f (n / 10 ^ (j + 1))) : Nat) : Int)) g
  | f, j, 0, hj, hf => absurd hf (Nat.not_lt_zero _)
  | f, j, fuel + 1, hj, hf => by
    have hstep : Model_sayNumber_lp23 (ax_F m) (fuel + 1) = Model_sayNumber_bd23 (ax_F m) (Model_sayNumber_lp23 (ax_F m) fuel) := rfl
    obtain ⟨u1, u2⟩ := p10 j (by omega)
    obtain ⟨y, hy⟩ : ∃ y, y = n / 10 ^ j := ⟨_, rfl⟩
    have e : n / 10 ^ (j + 1) = y / 10 := by rw [hy, Nat.pow_succ, Nat.div_div_eq_div_mul]
    have hle : y ≤ n := by rw [hy]; exact Nat.div_le_self _ _
    rw [hstep]
    unfold Model_sayNumber_bd23 ax_nzl
    rw [if_neg (zl_u0 u1 (by omega)), zl_ndu hn u1 (by omega), show (-9 : Int64) = Int64.ofInt (-9) from rfl, ← hy]
    have y18 : j = 18 → y ≤ 9 := fun z => by subst z; rw [hy]; omega
    clear hy
    by_cases c : y ≤ 9
    · rw [if_pos ((zl_cmp_ge _ _).mpr (by rw [zl_le (by omega) (by omega) (by omega) (by omega)]; omega)), e, show y / 10 = 0 by omega, fcN_0, Nat.add_zero]
    · rw [if_neg (fun z => by have := (zl_cmp_ge _ _).mp z; rw [zl_le (by omega) (by omega) (by omega) (by omega)] at this; omega)]
      cases f with
      | zero =>
        exact absurd (y18 (by omega)) c
      | succ f =>
        have ee : fcN (f + 1) (n / 10 ^ (j + 1)) = if n / 10 ^ (j + 1) = 0 then 0 else fcN f (n / 10 ^ (j + 1) / 10) + 1 := rfl
        have e2 : n / 10 ^ (j + 1) / 10 = n / 10 ^ (j + 1 + 1) := by rw [Nat.pow_succ 10 (j + 1), Nat.div_div_eq_div_mul]
        rw [ee, if_neg (by omega), e2, show (10 : Int64) = Int64.ofInt 10 from rfl, zl_mul, show (10 : Int) * ((10 ^ j : Nat) : Int) = ((10 ^ (j + 1) : Nat) : Int) from by rw [Nat.pow_succ]; omega, show j + (fcN f (n / 10 ^ (j + 1 + 1)) + 1) = j + 1 + fcN f (n / 10 ^ (j + 1 + 1)) by omega]
        exact Mn_1 hn f (j + 1) fuel (by omega) (by omega)
/-- and says the figures -/
theorem Mn_2 {m n : Nat} {h : ax_Hp} (hn : n ≤ 9223372036854775808) : ∀ (k : Nat) (s : mS) (fuel : Nat), k ≤ 18 → 0 ≤ s.1 7 → s.1 7 + k < 1900000000 → k + 1 < fuel → ∃ s', Model_sayNumber_lp45 (ax_F (m + 1)) fuel (some 24) (Int64.ofInt (-(n : Int))) (Int64.ofInt ((10 ^ k : Nat) : Int)) (mH h s) = some (.inl none, mH h s') ∧ syF s s' ∧ said s s' (dgN n (k + 1))
  | k, s, 0, hk, h0, h1, hf => absurd hf (Nat.not_lt_zero _)
  | k, s, fuel + 1, hk, h0, h1, hf => by
    have hstep : Model_sayNumber_lp45 (ax_F (m + 1)) (fuel + 1) = Model_sayNumber_bd45 (ax_F (m + 1)) (Model_sayNumber_lp45 (ax_F (m + 1)) fuel) := rfl
    obtain ⟨u1, u2⟩ := p10 k hk
    have hle : n / 10 ^ k ≤ 9223372036854775808 := Nat.le_trans (Nat.div_le_self _ _) hn
    obtain ⟨s1, e1, f1, g1, -⟩ := Model_say_z (n := m) (h := h) (s := s) (x := 48 + ((n / 10 ^ k % 10 : Nat) : Int)) h0 (by omega)
    have l1 := said_1 g1
    rw [List.length_singleton] at l1
    have hd : dgN n (k + 1) = [48 + ((n / 10 ^ k % 10 : Nat) : Int)] ++ dgN n k := rfl
    rw [hstep, hd]
    unfold Model_sayNumber_bd45
    rw [if_neg (zl_up u1 (by omega))]
    rw [show ∀ q : ax_O, ax_nzl (Int64.ofInt ((10 ^ k : Nat) : Int)) q = q from fun q => if_neg (zl_u0 u1 (by omega)), nz10, mS_on, zl_ndu hn u1 (by omega), zl_dg2 hle, pl_cv e1, nz10]
    cases k with
    | zero =>
      obtain ⟨fuel, rfl⟩ : ∃ g, fuel = g + 1 := ⟨fuel - 1, by omega⟩
      have hstep2 : Model_sayNumber_lp45 (ax_F (m + 1)) (fuel + 1) = Model_sayNumber_bd45 (ax_F (m + 1)) (Model_sayNumber_lp45 (ax_F (m + 1)) fuel) := rfl
      refine ⟨s1, ?_, f1, ?_⟩
      · rw [hstep2]
        unfold Model_sayNumber_bd45
        rw [if_pos (show (lg_cmp (Int64.ofInt ((10 ^ 0 : Nat) : Int) / 10) 0) ≤ 0 from by decide)]
        rfl
      · show said s s1 ([_] ++ [])
        rw [List.append_nil]
        exact g1
    | succ k =>
      obtain ⟨s', e2, f2, g2⟩ := Mn_2 (m := m) (h := h) hn k s1 fuel (by omega) (by omega) (by omega) (by omega)
      refine ⟨s', ?_, f1.trans f2, g1.trans g2⟩
      rw [zl_div10 (by omega) (by omega), show ((10 ^ (k + 1) : Nat) : Int).tdiv 10 = ((10 ^ k : Nat) : Int) from by rw [Int.tdiv_eq_ediv_of_nonneg (by omega), Nat.pow_succ]; omega]
      exact e2
/-- the reference says a number -/
theorem Model_sayNumber_z {m : Nat} {h : ax_Hp} {s : mS} {v : Int64} (h0 : 0 ≤ s.1 7) (h1 : s.1 7 < 1000000000) : ∃ s', ax_F (m + 2) 205 [ax_A (some 24), ax_L v] (mH h s) = some (.inl none, mH h s') ∧ syF s s' ∧ said s s' (decL v) := by
  have v0 : -9223372036854775808 ≤ v.toInt := Int64.le_toInt v
  have v1 : v.toInt < 9223372036854775808 := Int64.toInt_lt v
  have ev : v = Int64.ofInt v.toInt := (Int64.ofInt_toInt v).symm
  have fb := fcN_b 18 (v.toInt.natAbs / 10)
  have cg : (0 ≤ lg_cmp v 0) ↔ 0 ≤ v.toInt := by
    rw [zl_cmp_ge, Int64.le_iff_toInt_le]
    exact Iff.rfl
  have go : ∀ s : mS, 0 ≤ s.1 7 → s.1 7 < 1800000000 → ∃ s', Model_sayNumber_lp23 (ax_F (m + 1)) ax_fuel (some 24) (Int64.ofInt (-((v.toInt.natAbs : Nat) : Int))) 1 (mH h s) = some (.inl none, mH h s') ∧ syF s s' ∧ said s s' (dgN v.toInt.natAbs (fgN v.toInt.natAbs)) := fun s a0 a1 => by
    obtain ⟨s', e, f, g⟩ := Mn_2 (m := m) (h := h) (n := v.toInt.natAbs) (by omega) (fcN 18 (v.toInt.natAbs / 10)) s ax_fuel fb a0 (by omega) (by unfold ax_fuel; omega)
    refine ⟨s', ?_, f, by unfold fgN; rw [Nat.add_comm 1]; exact g⟩
    have z := Mn_1 (m := m + 1) (g := mH h s) (n := v.toInt.natAbs) (by omega) 18 0 ax_fuel (by omega) (by unfold ax_fuel; omega)
    rw [Nat.zero_add, Nat.zero_add, Nat.pow_one] at z
    exact z.trans e
  rw [Model_sayNumber_F]
  unfold Model_sayNumber_b decL
  by_cases c : 0 ≤ v.toInt
  · rw [if_pos (cg.mpr c), if_neg (by omega), List.nil_append, show -v = Int64.ofInt (-((v.toInt.natAbs : Nat) : Int)) from by rw [show ((v.toInt.natAbs : Nat) : Int) = v.toInt by omega, ← zl_neg, ← ev]]
    exact go s h0 (by omega)
  · obtain ⟨s1, e1, f1, g1, -⟩ := Model_say_z (n := m) (h := h) (s := s) (x := 45) h0 (by omega)
    have l1 := said_1 g1
    rw [List.length_singleton] at l1
    obtain ⟨s', e2, f2, g2⟩ := go s1 (by omega) (by omega)
    rw [show -((v.toInt.natAbs : Nat) : Int) = v.toInt by omega, ← ev] at e2
    rw [if_neg (fun z => c (cg.mp z)), if_pos (show v.toInt < 0 by omega), mS_on, pl_cv (show ax_F (m + 1) 160 [ax_A (some 24), ax_I 45] (mH h s) = _ from e1)]
    exact ⟨s', e2, f1.trans f2, g1.trans g2⟩
theorem dgN_len (n : Nat) : ∀ k, (dgN n k).length = k
  | 0 => rfl
  | k + 1 => by show (dgN n k).length + 1 = k + 1; rw [dgN_len n k]
theorem decL_len (v : Int64) : (decL v).length ≤ 20 := by
  have fb := fgN_b v.toInt.natAbs
  unfold decL
  rw [List.length_append, dgN_len]
  split
  · rw [List.length_singleton]; omega
  · rw [List.length_nil]; omega
