theorem ss63_f (x : BitVec 64) (h : x.msb = false) : x.sshiftRight 63 = 0#64 := by
  apply BitVec.eq_of_getLsbD_eq
  intro i hi
  rw [BitVec.getLsbD_sshiftRight]
  simp only [show ¬ (64 ≤ i) by omega, decide_false, Bool.not_false, Bool.true_and, BitVec.getLsbD_zero]
  by_cases c : i = 0
  · subst c
    rw [if_pos (by decide)]
    rw [BitVec.msb_eq_getLsbD_last] at h
    exact h
  · rw [if_neg (by omega), h]
theorem ss63_t (x : BitVec 64) (h : x.msb = true) : x.sshiftRight 63 = BitVec.allOnes 64 := by
  apply BitVec.eq_of_getLsbD_eq
  intro i hi
  rw [BitVec.getLsbD_sshiftRight]
  simp only [show ¬ (64 ≤ i) by omega, decide_false, Bool.not_false, Bool.true_and, BitVec.getLsbD_allOnes, show i < 64 from hi, decide_true]
  by_cases c : i = 0
  · subst c
    rw [if_pos (by decide)]
    rw [BitVec.msb_eq_getLsbD_last] at h
    exact h
  · rw [if_neg (by omega), h]
theorem zz_e {a : Int} (a0 : -9223372036854775808 ≤ a) (a1 : a < 9223372036854775808) : ((Int64.ofInt a) <<< ((1 : Int32).toInt64 &&& 63)) ^^^ ((Int64.ofInt a) >>> ((63 : Int32).toInt64 &&& 63)) = Int64.ofInt (spZz a) := by
  apply Int64.toBitVec_inj.mp
  rw [Int64.ofInt_eq_ofNat]
  have e1 : ((Int64.ofInt a) <<< ((1 : Int32).toInt64 &&& 63)).toBitVec = (BitVec.ofInt 64 a) <<< (1 : Nat) := rfl
  have e2 : ((Int64.ofInt a) >>> ((63 : Int32).toInt64 &&& 63)).toBitVec = (BitVec.ofInt 64 a).sshiftRight 63 := rfl
  have e3 : (Int64.ofNat (spZz a)).toBitVec = BitVec.ofNat 64 (spZz a) := rfl
  rw [Int64.toBitVec_xor, e1, e2, e3]
  have hn : (BitVec.ofInt 64 a).toNat = if 0 ≤ a then a.toNat else (a + 18446744073709551616).toNat := by
    rw [BitVec.toNat_ofInt]
    split <;> omega
  apply BitVec.eq_of_toNat_eq
  by_cases c : 0 ≤ a
  · rw [if_pos c] at hn
    have hm : (BitVec.ofInt 64 a).msb = false := by rw [BitVec.msb_eq_decide, hn]; simp; omega
    rw [ss63_f _ hm, BitVec.xor_zero, BitVec.toNat_shiftLeft, hn, BitVec.toNat_ofNat, Nat.shiftLeft_eq]
    unfold spZz
    rw [if_neg (by omega)]
    omega
  · rw [if_neg c] at hn
    have hm : (BitVec.ofInt 64 a).msb = true := by rw [BitVec.msb_eq_decide, hn]; simp; omega
    rw [ss63_t _ hm, BitVec.xor_allOnes, BitVec.toNat_not, BitVec.toNat_shiftLeft, hn, BitVec.toNat_ofNat, Nat.shiftLeft_eq]
    unfold spZz
    rw [if_pos (by omega)]
    omega
theorem zc_and (z : Nat) : ((Int64.ofInt z).toInt32) &&& 127 = Int32.ofInt ((z % 128 : Nat) : Int) := by
  rw [Int64.ofInt_eq_ofNat, Int32.ofInt_eq_ofNat]
  apply Int32.toBitVec_inj.mp
  apply BitVec.eq_of_toNat_eq
  show (((BitVec.ofNat 64 z).signExtend 32) &&& 127#32).toNat = (BitVec.ofNat 32 (z % 128)).toNat
  rw [BitVec.signExtend_eq_setWidth_of_le _ (by decide), BitVec.toNat_and, BitVec.toNat_setWidth, BitVec.toNat_ofNat, BitVec.toNat_ofNat]
  show (z % 2 ^ 64 % 2 ^ 32 &&& 127) = _
  rw [show (127 : Nat) = 2 ^ 7 - 1 from rfl, Nat.and_two_pow_sub_one_eq_mod, BitVec.toNat_ofNat]
  omega
theorem spZb_le : ∀ (k f z : Nat), z < 128 ^ (k + 1) → (spZb f z).length ≤ k + 1
  | _, 0, _, _ => by show 1 ≤ _; omega
  | 0, f + 1, z, h => by
    rw [spZb_s, if_pos (by simpa using h)]
    show 1 ≤ _; omega
  | k + 1, f + 1, z, h => by
    rw [spZb_s]
    split
    · show 1 ≤ _; omega
    · rw [List.length_cons]
      have := spZb_le k f (z / 128) (by rw [Nat.pow_succ] at h; omega)
      omega
theorem Vr_addL {m : Nat} {g : ax_Hp} {K : Nat → Nat} {vr sc : Nat} {val : Bool} (h : kOk K) (X : vrX g K vr sc val) : ∀ (f : Nat) (s : cS) (z fuel : Nat), f ≤ 9 → z < 18446744073709551616 → z < 128 ^ (f + 1) → bRm K s (spZb f z).length → f < fuel → ∃ s', ValueReader_addNumber_lp12 (ax_F (m + 1)) fuel (some vr) (Int64.ofInt z) (Int32.ofInt (63 - 7 * f)) (cH g K s) = some (.inl none, cH g K s') ∧ s'.1 = s.1 ∧ mkE s s' ∧ bsE K s s' (spZb f z) := by
  have last : ∀ (s : cS) (z fuel : Nat) (sh : Int), z < 128 → 0 ≤ sh → sh < 64 → bRm K s 1 → 0 < fuel → ∃ s', ValueReader_addNumber_lp12 (ax_F (m + 1)) fuel (some vr) (Int64.ofInt z) (Int32.ofInt sh) (cH g K s) = some (.inl none, cH g K s') ∧ s'.1 = s.1 ∧ mkE s s' ∧ bsE K s s' [(z : Int)] := by
    intro s z fuel sh hz sh0 sh1 r hf
    obtain ⟨fuel, rfl⟩ : ∃ g, fuel = g + 1 := ⟨fuel - 1, by omega⟩
    have hstep : ValueReader_addNumber_lp12 (ax_F (m + 1)) (fuel + 1) = ValueReader_addNumber_bd12 (ax_F (m + 1)) (ValueReader_addNumber_lp12 (ax_F (m + 1)) fuel) := rfl
    obtain ⟨s', b, e, e1, e2, e3⟩ := Ro_addE (m := m) (g := g) (s := s) (x := z) h r
    refine ⟨s', ?_, e1, e2, e3⟩
    rw [hstep]
    unfold ValueReader_addNumber_bd12
    rw [if_neg (show ¬ (64 : Int32) ≤ Int32.ofInt sh from by rw [show (64 : Int32) = Int32.ofInt 64 from rfl, zi_le (by omega) (by omega) (by omega) (by omega)]; omega), zb_shr z (by omega), if_pos ((zb_eq0 (z / 128) (by omega)).mpr (by omega)), vr_gr2 X, Option.bind_some, ro_on h, zc_and, show z % 128 = z from Nat.mod_eq_of_lt hz, pl_ci e]
    rfl
  intro f
  induction f with
  | zero =>
    intro s z fuel hf9 hz hz2 r hf
    exact last s z fuel _ (by simpa using hz2) (by omega) (by omega) r (by omega)
  | succ f ih =>
    intro s z fuel hf9 hz hz2 r hf
    rw [spZb_s] at r ⊢
    by_cases c : z < 128
    · rw [if_pos c] at r ⊢
      exact last s z fuel _ c (by omega) (by omega) r (by omega)
    · rw [if_neg c] at r ⊢
      obtain ⟨fuel, rfl⟩ : ∃ g, fuel = g + 1 := ⟨fuel - 1, by omega⟩
      have hstep : ValueReader_addNumber_lp12 (ax_F (m + 1)) (fuel + 1) = ValueReader_addNumber_bd12 (ax_F (m + 1)) (ValueReader_addNumber_lp12 (ax_F (m + 1)) fuel) := rfl
      rw [List.length_cons] at r
      obtain ⟨s1, b, e1, x1, m1, b1⟩ := Ro_addE (m := m) (g := g) (s := s) (x := ((z % 128 : Nat) : Int) + 128) h ⟨r.1, r.2.1, fun w => by have := r.2.2 w; omega⟩
      have r1 := bsE_rm b1 r
      obtain ⟨s2, e2, x2, m2, b2⟩ := ih s1 (z / 128) fuel (by omega) (by omega) (by rw [Nat.pow_succ] at hz2; omega) (by rw [List.length_singleton, show (((spZb f (z / 128)).length + 1 : Nat) : Int) - ((1 : Nat) : Int) = ((spZb f (z / 128)).length : Int) by omega] at r1; exact r1) (by omega)
      refine ⟨s2, ?_, x2.trans x1, m1.trans m2, b1.trans r.1 b2⟩
      rw [hstep]
      unfold ValueReader_addNumber_bd12
      rw [if_neg (show ¬ (64 : Int32) ≤ Int32.ofInt (63 - 7 * ((f + 1 : Nat) : Int)) from by rw [show (64 : Int32) = Int32.ofInt 64 from rfl, zi_le (by omega) (by omega) (by omega) (by omega)]; omega), zb_shr z (by omega), if_neg (fun q => by have := (zb_eq0 (z / 128) (by omega)).mp q; omega), vr_gr2 X, Option.bind_some, ro_on h, zc_and, show (128 : Int32) = Int32.ofInt 128 from rfl, zi_add, pl_ci e1, show (7 : Int32) = Int32.ofInt 7 from rfl, zi_add, show 63 - 7 * ((f + 1 : Nat) : Int) + 7 = 63 - 7 * (f : Int) by omega]
      exact e2
theorem Vr_addN {m : Nat} {g : ax_Hp} {K : Nat → Nat} {vr sc : Nat} {val : Bool} {s : cS} {a : Int} (h : kOk K) (X : vrX g K vr sc val) (a0 : -9223372036854775808 ≤ a) (a1 : a < 9223372036854775808) (r : bRm K s (spZb 9 (spZz a)).length) : ∃ s', ax_F (m + 2) 48 [ax_A (some vr), ax_L (Int64.ofInt a)] (cH g K s) = some (.inl none, cH g K s') ∧ s'.1 = s.1 ∧ mkE s s' ∧ bsE K s s' (spZb 9 (spZz a)) := by
  rw [ValueReader_addNumber_F]
  unfold ValueReader_addNumber_b
  have hz : spZz a < 18446744073709551616 := by unfold spZz; split <;> omega
  rw [zz_e a0 a1]
  exact Vr_addL h X 9 s (spZz a) ax_fuel (by omega) hz (by simp; omega) r (by unfold ax_fuel; omega)
