/-- the bytes of a number: seven binary figures each, the lowest first -/
def spZb : Nat → Nat → List Int
  | 0, z => [(z : Int)]
  | f + 1, z => if z < 128 then [(z : Int)] else (((z % 128 : Nat) : Int) + 128) :: spZb f (z / 128)
theorem spZb_s (f z : Nat) : spZb (f + 1) z = if z < 128 then [(z : Int)] else (((z % 128 : Nat) : Int) + 128) :: spZb f (z / 128) := rfl
theorem spZb_len : ∀ f z, (spZb f z).length ≤ f + 1
  | 0, _ => Nat.le_refl _
  | f + 1, z => by
    rw [spZb_s]
    split
    · simp
    · have := spZb_len f (z / 128)
      rw [List.length_cons]; omega
def spZz (a : Int) : Nat := if a < 0 then (-2 * a - 1).toNat else (2 * a).toNat
theorem zb_shr (z : Nat) (hz : z < 18446744073709551616) : ((Int64.ofInt z).toUInt64 >>> ((7 : Int32).toInt64.toUInt64 &&& Int64.toUInt64 63)).toInt64 = Int64.ofInt ((z / 128 : Nat) : Int) := by
  rw [Int64.ofInt_eq_ofNat, Int64.ofInt_eq_ofNat]
  apply Int64.toBitVec_inj.mp
  apply BitVec.eq_of_toNat_eq
  have e : ((7 : Int32).toInt64.toUInt64 &&& Int64.toUInt64 63) = 7 := by decide
  rw [e]
  show ((BitVec.ofNat 64 z) >>> (7 : Nat)).toNat = (BitVec.ofNat 64 (z / 128)).toNat
  rw [BitVec.toNat_ushiftRight, BitVec.toNat_ofNat, BitVec.toNat_ofNat, Nat.shiftRight_eq_div_pow]
  omega
theorem zb_eq0 (z : Nat) (hz : z < 9223372036854775808) : (lg_cmp (Int64.ofInt z) 0 = 0) ↔ z = 0 := by
  unfold lg_cmp
  have e : (0 : Int64) = Int64.ofInt 0 := rfl
  by_cases c : z = 0
  · subst c
    exact ⟨fun _ => rfl, fun _ => by decide⟩
  · have c1 : (Int64.ofInt z) > 0 := by
      show 0 < Int64.ofInt z
      rw [Int64.lt_iff_toInt_lt, zl_toInt (by omega) (by omega)]
      show (0 : Int) < z
      omega
    rw [if_pos c1]
    exact ⟨fun h => absurd h (by decide), fun h => absurd h c⟩
theorem zb_and (z : Nat) (hz : z < 18446744073709551616) : ((Int64.ofInt z) &&& 127).toInt32 = Int32.ofInt ((z % 128 : Nat) : Int) := by
  rw [Int64.ofInt_eq_ofNat, Int32.ofInt_eq_ofNat]
  apply Int32.toBitVec_inj.mp
  apply BitVec.eq_of_toNat_eq
  show ((BitVec.ofNat 64 z &&& 127#64).signExtend 32).toNat = (BitVec.ofNat 32 (z % 128)).toNat
  rw [BitVec.signExtend_eq_setWidth_of_le _ (by decide), BitVec.toNat_setWidth, BitVec.toNat_and, BitVec.toNat_ofNat, BitVec.toNat_ofNat]
  show (z % 2 ^ 64 &&& 127) % 2 ^ 32 = _
  rw [show (127 : Nat) = 2 ^ 7 - 1 from rfl, Nat.and_two_pow_sub_one_eq_mod, BitVec.toNat_ofNat]
  omega
theorem zb_32 (z : Nat) (hz : z < 128) : (Int64.ofInt z).toInt32 = Int32.ofInt z := by
  rw [Int64.ofInt_eq_ofNat, Int32.ofInt_eq_ofNat]
  apply Int32.toBitVec_inj.mp
  apply BitVec.eq_of_toNat_eq
  show ((BitVec.ofNat 64 z).signExtend 32).toNat = (BitVec.ofNat 32 z).toNat
  rw [BitVec.signExtend_eq_setWidth_of_le _ (by decide), BitVec.toNat_setWidth, BitVec.toNat_ofNat, BitVec.toNat_ofNat]
  omega
theorem Model_sayAmount_l {m : Nat} {h : ax_Hp} : ∀ (f : Nat) (s : mS) (z fuel : Nat), z < 18446744073709551616 → z < 128 ^ (f + 1) → 0 ≤ s.1 7 → s.1 7 + f < 1900000000 → f < fuel → ∃ s', Model_sayAmount_lp22 (ax_F (m + 1)) fuel (some 24) (Int64.ofInt z) (mH h s) = some (.inl none, mH h s') ∧ syF s s' ∧ said s s' (spZb f z) ∧ s'.2.1 = s.2.1 := by
  have last : ∀ (s : mS) (z fuel : Nat), z < 128 → 0 ≤ s.1 7 → s.1 7 < 1900000000 → 0 < fuel → ∃ s', Model_sayAmount_lp22 (ax_F (m + 1)) fuel (some 24) (Int64.ofInt z) (mH h s) = some (.inl none, mH h s') ∧ syF s s' ∧ said s s' [(z : Int)] ∧ s'.2.1 = s.2.1 := by
    intro s z fuel hz d0 d1 hf
    obtain ⟨fuel, rfl⟩ : ∃ g, fuel = g + 1 := ⟨fuel - 1, by omega⟩
    have hstep : Model_sayAmount_lp22 (ax_F (m + 1)) (fuel + 1) = Model_sayAmount_bd22 (ax_F (m + 1)) (Model_sayAmount_lp22 (ax_F (m + 1)) fuel) := rfl
    obtain ⟨s1, e1, r⟩ := Model_say_z (n := m) (h := h) (s := s) (x := z) d0 (by omega)
    refine ⟨s1, ?_, r⟩
    rw [hstep]
    unfold Model_sayAmount_bd22
    rw [zb_shr z (by omega), if_pos ((zb_eq0 (z / 128) (by omega)).mpr (by omega)), mS_on, zb_32 z hz, pl_cv e1]
    rfl
  intro f
  induction f with
  | zero =>
    intro s z fuel hz hz2 d0 d1 hf
    exact last s z fuel (by simpa using hz2) d0 (by omega) (by omega)
  | succ f ih =>
    intro s z fuel hz hz2 d0 d1 hf
    rw [spZb_s]
    by_cases c : z < 128
    · rw [if_pos c]
      exact last s z fuel c d0 (by omega) (by omega)
    · rw [if_neg c]
      obtain ⟨fuel, rfl⟩ : ∃ g, fuel = g + 1 := ⟨fuel - 1, by omega⟩
      have hstep : Model_sayAmount_lp22 (ax_F (m + 1)) (fuel + 1) = Model_sayAmount_bd22 (ax_F (m + 1)) (Model_sayAmount_lp22 (ax_F (m + 1)) fuel) := rfl
      obtain ⟨s1, e1, f1, g1, a1⟩ := Model_say_z (n := m) (h := h) (s := s) (x := ((z % 128 : Nat) : Int) + 128) d0 (by omega)
      have := said_1 g1
      obtain ⟨s2, e2, f2, g2, a2⟩ := ih s1 (z / 128) fuel (by omega) (by rw [Nat.pow_succ] at hz2; omega) (by rw [this]; simp; omega) (by rw [this]; simp; omega) (by omega)
      refine ⟨s2, ?_, f1.trans f2, g1.trans g2, a2.trans a1⟩
      rw [hstep]
      unfold Model_sayAmount_bd22
      rw [zb_shr z (by omega), if_neg (fun q => by have := (zb_eq0 (z / 128) (by omega)).mp q; omega), mS_on, zb_and z hz, show (128 : Int32) = Int32.ofInt 128 from rfl, zi_add, pl_cv e1]
      exact e2
theorem Model_sayAmount_z {m : Nat} {h : ax_Hp} {s : mS} {a : Int} (a0 : -9223372036854775808 ≤ a) (a1 : a < 9223372036854775808) (d0 : 0 ≤ s.1 7) (d1 : s.1 7 < 1800000000) : ∃ s', ax_F (m + 2) 167 [ax_A (some 24), ax_L (Int64.ofInt a)] (mH h s) = some (.inl none, mH h s') ∧ syF s s' ∧ said s s' (spZb 9 (spZz a)) ∧ s'.2.1 = s.2.1 := by
  rw [Model_sayAmount_F]
  unfold Model_sayAmount_b Model_sayAmount_jn21
  have hz : spZz a < 18446744073709551616 := by unfold spZz; split <;> omega
  obtain ⟨s1, e1, r⟩ := Model_sayAmount_l (m := m) (h := h) 9 s (spZz a) ax_fuel hz (by simp; omega) d0 (by omega) (by unfold ax_fuel; omega)
  refine ⟨s1, ?_, r⟩
  have e0 : (0 ≤ lg_cmp (Int64.ofInt a) 0) ↔ 0 ≤ a := by
    rw [zl_cmp_ge, show (0 : Int64) = Int64.ofInt 0 from rfl, zl_le (by omega) (by omega) a0 a1]
  by_cases c : 0 ≤ a
  · rw [if_pos (e0.mpr c), show (2 : Int64) * Int64.ofInt a = Int64.ofInt (spZz a) from by
      rw [zl_lit, zl_mul]; unfold spZz; rw [if_neg (by omega)]; congr 1; show 2 * a = _; omega]
    exact e1
  · rw [if_neg (fun q => c (e0.mp q)), show (-2 : Int64) * Int64.ofInt a - 1 = Int64.ofInt (spZz a) from by
      rw [show (-2 : Int64) = Int64.ofInt (-2) from rfl, show (1 : Int64) = Int64.ofInt 1 from rfl, zl_mul, zl_sub]; unfold spZz; rw [if_pos (by omega)]; congr 1; omega]
    exact e1
