/-- readText's own start -/
def rtS (s : mS) (tb : Int) (val : Bool) : mS := mI (mI (mI (mI (mI s 29 (if val then 1 else 0)) 30 tb) 31 0) 40 0) 38 2
theorem Model_readText_z {m : Nat} {h : ax_Hp} {s : mS} {c v : Int → Int} {val : Bool} {tb n t q : Int} {D : Nat} (hv : ∀ p, 160 ≤ p → v p = 0) (X : tcx c v val (rtS s tb val) 0 q) (hB : s.1 7 + 40 * (200 - q) + 2 * D ≤ 500000000) (hD : (D : Int) ≤ 8) (N : Nd s.2.2.1 c D n t) (hel : elh (rtS s tb val) (spA c v val D t q)) :
    (0 ≤ spVal c v val D t q → ∃ s', ax_F (m + 7) 156 [ax_A (some 24), ax_I (Int32.ofInt tb), ax_I (Int32.ofInt n), ax_I (Int32.ofInt q), ax_I (Int32.ofInt (if val then 1 else 0))] (mH h s) = some (.inl (some (ax_I (Int32.ofInt (spVal c v val D t q)))), mH h s') ∧ txD (rtS s tb val) s' 0 (spO (s.1 39) c v val D t q) (spA c v val D t q)) ∧
    (spVal c v val D t q < 0 → ∃ s', ax_F (m + 7) 156 [ax_A (some 24), ax_I (Int32.ofInt tb), ax_I (Int32.ofInt n), ax_I (Int32.ofInt q), ax_I (Int32.ofInt (if val then 1 else 0))] (mH h s) = some (.inl (some (ax_I (Int32.ofInt (spVal c v val D t q)))), mH h s') ∧ txG (rtS s tb val) s') := by
  have pre : ax_F (m + 7) 156 [ax_A (some 24), ax_I (Int32.ofInt tb), ax_I (Int32.ofInt n), ax_I (Int32.ofInt q), ax_I (Int32.ofInt (if val then 1 else 0))] (mH h s) = re m h ax_fuel n q (rtS s tb val) := by
    rw [Model_readText_F]
    unfold Model_readText_b
    rw [mpz_29 _ _ _ (by cases val; exact Or.inl rfl; exact Or.inr rfl), Option.bind_some, mpf_30, Option.bind_some, zi_0, mpf_31, Option.bind_some, mpf_40, Option.bind_some, show (2 : Int32) = Int32.ofInt 2 from rfl, mpf_38, Option.bind_some, mS_on]
    rfl
  obtain ⟨I1, I2⟩ := (sim_all (m := m) (h := h) (c := c) (val := val) hv D).1 (rtS s tb val) 0 q n t trivial X hB (by omega) N hel
  have x10 := X.2.2.2.2.2.2.2.2.2
  have B := spVal_b (c := c) (val := val) hv D t q x10.1 x10.2
  unfold bd at B
  refine ⟨fun z => ?_, fun z => ?_⟩
  · obtain ⟨k, s', k1, k2, k3, -⟩ := I1 z
    refine ⟨s', ?_, k3⟩
    obtain ⟨f, hf⟩ : ∃ f, ax_fuel = f + 1 + k := ⟨999999999999 - k, by unfold ax_fuel; omega⟩
    rw [pre, hf, k2]
    exact rt_end z (by omega) k3.2.2.1 k3.2.1
  · obtain ⟨k, s', k1, k2, k3⟩ := I2 z
    refine ⟨s', ?_, k3⟩
    obtain ⟨f, hf⟩ : ∃ f, ax_fuel = f + k := ⟨1000000000000 - k, by unfold ax_fuel; omega⟩
    rw [pre, hf, k2]
/-- the places p .. e of table tb are marked -/
theorem Model_extra_l {m : Nat} {h : ax_Hp} {tb n : Int} (htb : tb = 0 ∨ tb = 1) : ∀ (k : Nat) (s : mS) (p e : Int) (fuel : Nat), 0 ≤ p → p + k = e → e ≤ 160 → k < fuel → ∃ s', Model_readBehind_lp144 (ax_F m) fuel (some 24) (Int32.ofInt tb) (Int32.ofInt n) (Int32.ofInt e) (Int32.ofInt p) (mH h s) = Model_readBehind_jn179 (ax_F m) (some 24) (Int32.ofInt tb) (Int32.ofInt e) (Int32.ofInt n) (mH h (mI s' 38 1)) ∧ s'.1 = s.1 ∧ s'.2.1 = s.2.1 ∧ s'.2.2.2 = s.2.2.2 ∧ (∀ j, j ≠ 25 → s'.2.2.1 j = s.2.2.1 j) ∧ (∀ i : Nat, s'.2.2.1 25 i = if 160 * tb + p ≤ i ∧ (i : Int) < 160 * tb + e then 1 else s.2.2.1 25 i)
  | 0, s, p, e, fuel, p0, pe, e1, hf => by
    obtain ⟨fuel, rfl⟩ : ∃ g, fuel = g + 1 := ⟨fuel - 1, by omega⟩
    have hstep : Model_readBehind_lp144 (ax_F m) (fuel + 1) = Model_readBehind_bd144 (ax_F m) (Model_readBehind_lp144 (ax_F m) fuel) := rfl
    refine ⟨s, ?_, rfl, rfl, rfl, fun _ _ => rfl, fun i => (if_neg (by omega)).symm⟩
    rw [hstep]
    unfold Model_readBehind_bd144
    simp (disch := omega) only [zi_le, mpf_38, Option.bind_some, ↓zi_lit]
    rw [if_pos (by omega)]
  | k + 1, s, p, e, fuel, p0, pe, e1, hf => by
    obtain ⟨fuel, rfl⟩ : ∃ g, fuel = g + 1 := ⟨fuel - 1, by omega⟩
    have hstep : Model_readBehind_lp144 (ax_F m) (fuel + 1) = Model_readBehind_bd144 (ax_F m) (Model_readBehind_lp144 (ax_F m) fuel) := rfl
    obtain ⟨s', e2, r1, r2, r3, r4, r5⟩ := Model_extra_l (m := m) (h := h) (n := n) htb k (mU s 25 (160 * tb + p) 1) (p + 1) e fuel (by omega) (by omega) e1 (by omega)
    refine ⟨s', ?_, r1, r2, r3, fun j hj => (r4 j hj).trans (mU_ne _ _ _ _ _ hj), fun i => ?_⟩
    · rw [hstep]
      unfold Model_readBehind_bd144
      simp (disch := omega) only [zi_le, ↓mgr_25, mstz_25, mpf_38, Option.bind_some, ↓zi_lit, zi_mul, zi_add]
      rw [if_neg (by omega)]
      exact e2
    · rw [r5 i]
      by_cases q : 160 * tb + (p + 1) ≤ i ∧ (i : Int) < 160 * tb + e
      · rw [if_pos q, if_pos (by omega)]
      · rw [if_neg q, mU_3]
        by_cases q2 : i = (160 * tb + p).toNat
        · rw [if_pos ⟨rfl, q2⟩, if_pos (by omega)]
        · rw [if_neg (fun z => q2 z.2), if_neg (by omega)]
