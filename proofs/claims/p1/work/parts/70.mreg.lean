/-- the first loop of readSchema: no place of table t is extra -/
theorem Model_readSchema_l1 {m : Nat} {t : Int} {h : ax_Hp} (ht : 0 ≤ t) (ht1 : t < 2) : ∀ (k : Nat) (s : mS) (fuel : Nat), k ≤ 160 → k < fuel → ∃ s' : mS, Model_readSchema_lp19 (ax_F m) fuel (some 24) (Int32.ofInt t) (Int32.ofInt (160 - k)) (mH h s) = Model_readSchema_lp52 (ax_F m) ax_fuel (some 24) (Int32.ofInt t) 0 0 2 (mH h s') ∧ s'.1 = s.1 ∧ s'.2.1 = s.2.1 ∧ s'.2.2.2 = s.2.2.2 ∧ (∀ j i, j ≠ 25 → s'.2.2.1 j i = s.2.2.1 j i) ∧ (∀ i : Nat, s'.2.2.1 25 i = if 160 * t + 160 - k ≤ i ∧ i < 160 * t + 160 then 0 else s.2.2.1 25 i)
  | 0, s, fuel, _, hf => by
    obtain ⟨fuel, rfl⟩ : ∃ g, fuel = g + 1 := ⟨fuel - 1, by omega⟩
    refine ⟨s, ?_, rfl, rfl, rfl, fun _ _ _ => rfl, fun i => (if_neg (by omega)).symm⟩
    have hstep : Model_readSchema_lp19 (ax_F m) (fuel + 1) = Model_readSchema_bd19 (ax_F m) (Model_readSchema_lp19 (ax_F m) fuel) := rfl
    rw [hstep]
    unfold Model_readSchema_bd19
    rw [if_pos (show (160 : Int32) ≤ Int32.ofInt (160 - (0 : Nat)) from by decide)]
  | k + 1, s, fuel, hk, hf => by
    obtain ⟨fuel, rfl⟩ : ∃ g, fuel = g + 1 := ⟨fuel - 1, by omega⟩
    have hstep : Model_readSchema_lp19 (ax_F m) (fuel + 1) = Model_readSchema_bd19 (ax_F m) (Model_readSchema_lp19 (ax_F m) fuel) := rfl
    rw [hstep]
    unfold Model_readSchema_bd19
    obtain ⟨s', e, e1, e2, e3, e4, e5⟩ := Model_readSchema_l1 ht ht1 (m := m) (h := h) k (mU s 25 (160 * t + (160 - ((k + 1 : Nat) : Int))) 0) fuel (by omega) (by omega)
    refine ⟨s', ?_, e1, e2, e3, fun j i hj => (e4 j i hj).trans (if_neg (fun c => hj c.1)), fun i => ?_⟩
    · simp (disch := omega) only [↓mgr_25, mstz_25, Option.bind_some, ↓zi_lit, zi_add, zi_mul, zi_le]
      rw [if_neg (by omega)]
      rw [show (160 : Int) - ((k + 1 : Nat) : Int) + 1 = 160 - (k : Int) by omega]
      exact e
    · rw [e5 i]
      by_cases c : 160 * t + 160 - k ≤ i ∧ i < 160 * t + 160
      · rw [if_pos c, if_pos (by omega)]
      · rw [if_neg c, mU_3]
        by_cases c2 : i = (160 * t + (160 - ((k + 1 : Nat) : Int))).toNat
        · rw [if_pos ⟨rfl, c2⟩, if_pos (by omega)]
        · rw [if_neg (fun z => c2 z.2), if_neg (by omega)]
theorem Model_loadTyped_l {m : Nat} {t n : Int} {h : ax_Hp} (ht : 0 ≤ t) (ht1 : t < 2) (hn : n ≤ 160) : ∀ (k : Nat) (s : mS) (fuel : Nat), (k : Int) ≤ n → k < fuel → s.1 1 = n → (∀ i, 0 ≤ s.2.2.1 2 i ∧ s.2.2.1 2 i < 65536) → ∃ s' : mS, Model_loadTyped_lp12 (ax_F m) fuel (some 24) (Int32.ofInt t) (Int32.ofInt (n - k)) (mH h s) = ax_ci (ax_F m 153 [ax_A (some 24), ax_I (Int32.ofInt t)] (mH h s')) (fun v6 h5 => ax_ri v6 h5) ∧ s'.1 = s.1 ∧ s'.2.1 = s.2.1 ∧ s'.2.2.2 = s.2.2.2 ∧ (∀ j i, j ≠ 14 → s'.2.2.1 j i = s.2.2.1 j i) ∧ (∀ i : Nat, s'.2.2.1 14 i = if 160 * t + n - k ≤ i ∧ i < 160 * t + n then s.2.2.1 2 (i - 160 * t).toNat else s.2.2.1 14 i)
  | 0, s, fuel, hk, hf, hs, hc => by
    obtain ⟨fuel, rfl⟩ : ∃ g, fuel = g + 1 := ⟨fuel - 1, by omega⟩
    refine ⟨s, ?_, rfl, rfl, rfl, fun _ _ _ => rfl, fun i => (if_neg (by omega)).symm⟩
    have hstep : Model_loadTyped_lp12 (ax_F m) (fuel + 1) = Model_loadTyped_bd12 (ax_F m) (Model_loadTyped_lp12 (ax_F m) fuel) := rfl
    rw [hstep]
    unfold Model_loadTyped_bd12
    simp (disch := omega) only [↓mgi_1, ↓mgr_2, ↓mgr_14, mld_2, mstc_14, mS_on, Option.bind_some, ↓zi_lit, zi_add, zi_mul, zi_le, hs]
    rw [if_pos (by omega)]
  | k + 1, s, fuel, hk, hf, hs, hc => by
    obtain ⟨fuel, rfl⟩ : ∃ g, fuel = g + 1 := ⟨fuel - 1, by omega⟩
    have hstep : Model_loadTyped_lp12 (ax_F m) (fuel + 1) = Model_loadTyped_bd12 (ax_F m) (Model_loadTyped_lp12 (ax_F m) fuel) := rfl
    rw [hstep]
    unfold Model_loadTyped_bd12
    obtain ⟨s', e, e1, e2, e3, e4, e5⟩ := Model_loadTyped_l ht ht1 hn (m := m) (h := h) k (mU s 14 (160 * t + (n - ((k + 1 : Nat) : Int))) (s.2.2.1 2 (n - ((k + 1 : Nat) : Int)).toNat)) fuel (by omega) (by omega) hs (fun i => by rw [mU_3, if_neg (fun c => absurd c.1 (by decide))]; exact hc i)
    have := hc (n - ((k + 1 : Nat) : Int)).toNat
    refine ⟨s', ?_, e1, e2, e3, fun j i hj => (e4 j i hj).trans (if_neg (fun c => hj c.1)), fun i => ?_⟩
    · simp (disch := omega) only [↓mgi_1, ↓mgr_2, ↓mgr_14, mld_2, mstc_14, mS_on, Option.bind_some, ↓zi_lit, zi_add, zi_mul, zi_le, hs]
      rw [if_neg (by omega)]
      rw [show n - ((k + 1 : Nat) : Int) + 1 = n - (k : Int) by omega]
      exact e
    · rw [e5 i]
      by_cases c : 160 * t + n - k ≤ i ∧ i < 160 * t + n
      · rw [if_pos c, if_pos (by omega), mU_3, if_neg (fun z => absurd z.1 (by decide))]
      · rw [if_neg c, mU_3]
        by_cases c2 : i = (160 * t + (n - ((k + 1 : Nat) : Int))).toNat
        · rw [if_pos ⟨rfl, c2⟩, if_pos (by omega), show (i - 160 * t).toNat = (n - ((k + 1 : Nat) : Int)).toNat by omega]
        · rw [if_neg (fun z => c2 z.2), if_neg (by omega)]
theorem Model_mayBegin_0 {m : Nat} {h : ax_Hp} {s : mS} : ax_F (m + 1) 172 [ax_A (some 24), ax_I (Int32.ofInt 0)] (mH h s) = some (.inl (some (ax_I 0)), mH h s) := by
  rw [Model_mayBegin_F]
  unfold Model_mayBegin_b Model_mayBegin_jn41 Model_mayBegin_jn65
  simp (disch := omega) only [↓zi_lit, zi_eq, ↓reduceIte, eq_self, Int.reduceEq]
  rfl
theorem Model_look_0 {n : Nat} {h : ax_Hp} {s : mS} {t p : Int} (ht : 0 ≤ t) (ht1 : t < 2) (hp0 : 0 ≤ p) (hp : s.2.2.1 15 t.toNat ≤ p) (hp1 : p < 1000) (hz0 : 0 ≤ s.2.2.1 15 t.toNat) : ax_F (n + 1) 155 [ax_A (some 24), ax_I (Int32.ofInt t), ax_I (Int32.ofInt p)] (mH h s) = some (.inl (some (ax_I (Int32.ofInt 0))), mH h s) := by
  rw [Model_look_F]
  unfold Model_look_b
  simp (disch := omega) only [↓mgr_14, ↓mgr_15, mld_15, Option.bind_some, ↓zi_lit, zi_add, zi_mul, zi_le, ↓reduceIte, eq_self, hp, za_rc]
/-- an empty text is no schema -/
theorem Model_readSchema_0 {m : Nat} {h : ax_Hp} {s : mS} {t : Int} (ht : 0 ≤ t) (ht1 : t < 2) (hz : s.2.2.1 15 t.toNat = 0) : ∃ s' : mS, ax_F (m + 3) 153 [ax_A (some 24), ax_I (Int32.ofInt t)] (mH h s) = some (.inl (some (ax_I (Int32.ofInt 0))), mH h s') ∧ (∀ k, k ≠ 26 → k ≠ 39 → s'.1 k = s.1 k) := by
  rw [Model_readSchema_F]
  unfold Model_readSchema_b
  simp (disch := omega) only [mpf_26, mpf_39, ↓mgr_16, mst_16, Option.bind_some, ↓zi_lit]
  obtain ⟨s', e, e1, e2, e3, e4, e5⟩ := Model_readSchema_l1 (m := m + 2) (h := h) ht ht1 160 (mI (mU (mI s 26 0) 16 t 0) 39 0) ax_fuel (by omega) (by unfold ax_fuel; omega)
  refine ⟨s', e.trans ?_, fun k h1 h2 => by rw [e1]; show (if k = 39 then _ else if k = 26 then _ else _) = _; rw [if_neg h2, if_neg h1]⟩
  have hz' : s'.2.2.1 15 t.toNat = 0 := (e4 15 _ (by decide)).trans (by rw [mI_2, mU_3, if_neg (fun c => absurd c.1 (by decide)), mI_2]; exact hz)
  have hf : Model_readSchema_lp52 (ax_F (m + 2)) ax_fuel = Model_readSchema_bd52 (ax_F (m + 2)) (Model_readSchema_bd52 (ax_F (m + 2)) (Model_readSchema_lp52 (ax_F (m + 2)) 999999999998)) := rfl
  rw [hf]
  generalize Model_readSchema_lp52 (ax_F (m + 2)) 999999999998 = K
  have hl : ax_F (m + 2) 171 [ax_A (some 24), ax_I (Int32.ofInt t), ax_I 0, ax_I 0] (mH h s') = some (.inl (some (ax_I (Int32.ofInt (-1)))), mH h s') := by
    rw [Model_readLetter_F]
    unfold Model_readLetter_b
    rw [mS_on]
    refine Eq.trans (pl_ci (Model_look_0 (p := 0) ht ht1 (by omega) (by omega) (by omega) (by omega))) ?_
    rw [mS_on, pl_ci Model_mayBegin_0, if_pos rfl]
    rfl
  unfold Model_readSchema_bd52
  rw [if_neg (by decide), if_neg (by decide), if_neg (by decide), if_pos rfl, mS_on, pl_ci hl, mgi_38, Option.bind_some, if_pos (by decide)]
  rfl
