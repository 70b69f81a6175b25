/-- a schema at sc in the picture h: its text c of length l, its marks fe, fn, fu -/
def schA (h : ax_Hp) (sc l : Nat) (c : Int → Int) (fe fn fu : Nat → Int) : Prop := ∃ (tr ti e nx u n8 ci : Nat) (fc : Nat → Int), h.2.2 sc = some (.inl (3, [ax_A (some tr), ax_A (some e), ax_A (some nx), ax_A (some u)])) ∧ h.2.2 tr = some (.inl (2, [ax_A (some ti), ax_I (Int32.ofInt l)])) ∧ h.2.2 ti = some (.inr (1, arL ci fc)) ∧ h.2.2 e = some (.inr (1, arL n8 fe)) ∧ h.2.2 nx = some (.inr (1, arL n8 fn)) ∧ h.2.2 u = some (.inr (1, arL n8 fu)) ∧ l ≤ n8 ∧ n8 ≤ 160 ∧ l ≤ ci ∧ ci ≤ 400 ∧ (∀ p : Int, 0 ≤ p → p < l → fc p.toNat = c p) ∧ (∀ p : Int, (l : Int) ≤ p → c p = 0) ∧ (∀ p : Int, 0 ≤ c p ∧ c p < 128)
/-- the marks are those of its reading -/
def gdS (l : Nat) (c : Int → Int) (fe fn fu : Nat → Int) : Prop := spTy c 6 0 = l ∧ fe 0 = l ∧ MkB fe fn fu c 6 0
def atC (l : Nat) (c : Int → Int) (i : Int) : Int := if 0 ≤ i ∧ i < l then c i else -1
theorem Sa_on {h : ax_Hp} {sc l : Nat} {c : Int → Int} {fe fn fu : Nat → Int} (S : schA h sc l c fe fn fu) (k : ax_O) : ax_on h (some sc) 3 k = k := by
  obtain ⟨tr, ti, e, nx, u, n8, ci, fc, s1, _⟩ := S
  exact pl_on s1
theorem Sa_lt {h : ax_Hp} {sc l : Nat} {c : Int → Int} {fe fn fu : Nat → Int} (S : schA h sc l c fe fn fu) : l ≤ 160 ∧ (∀ p : Int, (l : Int) ≤ p → c p = 0) ∧ (∀ p : Int, 0 ≤ c p ∧ c p < 128) ∧ ∀ p : Int, c p ≠ 0 → p < l := by
  obtain ⟨tr, ti, e, nx, u, n8, ci, fc, s1, s2, s3, s4, s5, s6, s7, s8, s9, s10, s11, s12, s13⟩ := S
  exact ⟨by omega, s12, s13, fun p z => Classical.byContradiction fun y => z (s12 _ (by omega))⟩
theorem Sa_row {m : Nat} {h : ax_Hp} {sc l : Nat} {c : Int → Int} {fe fn fu : Nat → Int} (S : schA h sc l c fe fn fu) {i : Int} (i0 : -1000 ≤ i) (i1 : i ≤ 1000) : ∃ tr, ax_gr h (some sc) 3 0 = some (some tr) ∧ (∀ k, ax_on h (some tr) 2 k = k) ∧ ax_F (m + 1) 45 [ax_A (some tr), ax_I (Int32.ofInt i)] h = some (.inl (some (ax_I (Int32.ofInt (atC l c i)))), h) := by
  obtain ⟨tr, ti, e, nx, u, n8, ci, fc, s1, s2, s3, s4, s5, s6, s7, s8, s9, s10, s11, s12, s13⟩ := S
  refine ⟨tr, pl_gr s1 rfl, fun k => pl_on s2, ?_⟩
  rw [Row_at_F]
  unfold Row_at_b atC
  by_cases a : i < 0
  · rw [if_pos (show Int32.ofInt i < 0 from by rw [zi_0, zi_lt (by omega) (by omega) (by omega) (by omega)]; exact a), if_neg (by omega)]
    rfl
  · rw [if_neg (show ¬ Int32.ofInt i < 0 from zi_n0 (by omega) (by omega)), pl_gi s2 (show _ = some (ax_I (Int32.ofInt l)) from rfl), Option.bind_some]
    by_cases b : i < l
    · rw [if_neg (show ¬ Int32.ofInt l ≤ Int32.ofInt i from by rw [zi_le (by omega) (by omega) (by omega) (by omega)]; omega), pl_gr s2 (show _ = some (ax_A (some ti)) from rfl), Option.bind_some, za_ld s3 (by omega) (by omega) (by omega), Option.bind_some, if_pos ⟨by omega, b⟩, s11 i (by omega) b]
      rfl
    · rw [if_pos (show Int32.ofInt l ≤ Int32.ofInt i from by rw [zi_le (by omega) (by omega) (by omega) (by omega)]; omega), if_neg (by omega)]
      rfl
theorem atC_in {l : Nat} {c : Int → Int} {i : Int} (h0 : 0 ≤ i) (h1 : i < l) : atC l c i = c i := if_pos ⟨h0, h1⟩
theorem Sa_at {m : Nat} {h : ax_Hp} {sc l : Nat} {c : Int → Int} {fe fn fu : Nat → Int} (S : schA h sc l c fe fn fu) {i : Int} (i0 : -1000 ≤ i) (i1 : i ≤ 1000) : ax_F (m + 2) 81 [ax_A (some sc), ax_I (Int32.ofInt i)] h = some (.inl (some (ax_I (Int32.ofInt (atC l c i)))), h) := by
  obtain ⟨tr, r1, r2, r3⟩ := Sa_row (m := m) S i0 i1
  rw [Schema_at_F]
  unfold Schema_at_b
  rw [r1, Option.bind_some, r2, pl_ci r3]
  rfl
theorem Sa_kind {m : Nat} {h : ax_Hp} {sc l : Nat} {c : Int → Int} {fe fn fu : Nat → Int} (S : schA h sc l c fe fn fu) {i : Int} (i0 : -1000 ≤ i) (i1 : i ≤ 1000) : ax_F (m + 2) 44 [ax_A (some sc), ax_I (Int32.ofInt i)] h = some (.inl (some (ax_I (Int32.ofInt (atC l c i)))), h) := by
  obtain ⟨tr, r1, r2, r3⟩ := Sa_row (m := m) S i0 i1
  rw [Schema_kind_F]
  unfold Schema_kind_b
  rw [r1, Option.bind_some, r2, pl_ci r3]
  rfl
theorem Sa_sb {m : Nat} {h : ax_Hp} {sc l : Nat} {c : Int → Int} {fe fn fu : Nat → Int} (S : schA h sc l c fe fn fu) {t i : Int} (t0 : 0 ≤ t) (t1 : t ≤ 200) (i0 : 0 ≤ i) (i1 : i ≤ 200) : ax_F (m + 2) 79 [ax_A (some sc), ax_I (Int32.ofInt t), ax_I (Int32.ofInt i)] h = some (.inl (some (ax_I (Int32.ofInt (atC l c (t + 2 + i))))), h) := by
  obtain ⟨tr, r1, r2, r3⟩ := Sa_row (m := m) S (i := t + 2 + i) (by omega) (by omega)
  rw [Schema_symbol_F]
  unfold Schema_symbol_b
  rw [r1, Option.bind_some, r2, show (2 : Int32) = Int32.ofInt 2 from rfl, zi_add, zi_add, pl_ci r3]
  rfl
theorem Sa_next {m : Nat} {h : ax_Hp} {sc l : Nat} {c : Int → Int} {fe fn fu : Nat → Int} (S : schA h sc l c fe fn fu) {i : Int} (i0 : 0 ≤ i) (i1 : i < l) : ax_F (m + 1) 63 [ax_A (some sc), ax_I (Int32.ofInt i)] h = some (.inl (some (ax_I (Int32.ofInt (fn i.toNat)))), h) := by
  obtain ⟨tr, ti, e, nx, u, n8, ci, fc, s1, s2, s3, s4, s5, s6, s7, s8, s9, s10, s11, s12, s13⟩ := S
  rw [Schema_nextPart_F]
  unfold Schema_nextPart_b
  rw [if_neg (show ¬ Int32.ofInt i < 0 from zi_n0 i0 (by omega)), pl_gr s1 (show _ = some (ax_A (some nx)) from rfl), Option.bind_some, pl_len s5, Option.bind_some, arL_len, if_neg (show ¬ Int32.ofNat n8 ≤ Int32.ofInt i from by rw [show Int32.ofNat n8 = Int32.ofInt n8 from (Int32.ofInt_eq_ofNat).symm, zi_le (by omega) (by omega) (by omega) (by omega)]; omega), Option.bind_some, za_ld s5 i0 (by omega) (by omega), Option.bind_some]
  rfl
theorem Sa_end {m : Nat} {h : ax_Hp} {sc l : Nat} {c : Int → Int} {fe fn fu : Nat → Int} (S : schA h sc l c fe fn fu) {i : Int} (i0 : 0 ≤ i) (i1 : i < l) : ax_F (m + 1) 77 [ax_A (some sc), ax_I (Int32.ofInt i)] h = some (.inl (some (ax_I (Int32.ofInt (fe i.toNat)))), h) := by
  obtain ⟨tr, ti, e, nx, u, n8, ci, fc, s1, s2, s3, s4, s5, s6, s7, s8, s9, s10, s11, s12, s13⟩ := S
  rw [Schema_end_F]
  unfold Schema_end_b
  rw [if_neg (show ¬ Int32.ofInt i < 0 from zi_n0 i0 (by omega)), pl_gr s1 (show _ = some (ax_A (some e)) from rfl), Option.bind_some, pl_len s4, Option.bind_some, arL_len, if_neg (show ¬ Int32.ofNat n8 ≤ Int32.ofInt i from by rw [show Int32.ofNat n8 = Int32.ofInt n8 from (Int32.ofInt_eq_ofNat).symm, zi_le (by omega) (by omega) (by omega) (by omega)]; omega), Option.bind_some, za_ld s4 i0 (by omega) (by omega), Option.bind_some]
  rfl
theorem Sa_symL {m : Nat} {h : ax_Hp} {sc l : Nat} {c : Int → Int} {fe fn fu : Nat → Int} {t x : Int} (S : schA h sc l c fe fn fu) (t0 : 0 ≤ t) (t1 : t ≤ 160) (hE : 0 ≤ spE c t) (x0 : -1 ≤ x) (x1 : x < 128) : ∀ (f j fuel : Nat), j + f = 8 → j ≤ spSy c (t + 2) 8 0 → (∀ i : Nat, i < j → c (t + 2 + i) ≠ x) → f < fuel → Schema_symbolNumber_lp2 (ax_F (m + 1)) fuel (some sc) (Int32.ofInt t) (Int32.ofInt x) (Int32.ofInt j) h = some (.inl (some (ax_I (Int32.ofInt (spIx c (t + 2) x (spSy c (t + 2) 8 0))))), h) := by
  have k8 := (spSy_k (c := c) (p := t + 2) 8 0).2.1
  have ksm := (spSy_k (c := c) (p := t + 2) 8 0).2.2
  have kd := spSy_d (c := c) (p := t + 2) 8 0 (fun i j _ hj => absurd hj (Nat.not_lt_zero _))
  obtain ⟨e1, e2, e3⟩ := spE_in t0 hE
  obtain ⟨g1, g2, g3, g4⟩ := Sa_lt S
  generalize spSy c (t + 2) 8 0 = k at *
  intro f
  induction f with
  | zero =>
    intro j fuel hj hjk hn hf
    obtain ⟨fuel, rfl⟩ : ∃ g, fuel = g + 1 := ⟨fuel - 1, by omega⟩
    have hstep : Schema_symbolNumber_lp2 (ax_F (m + 1)) (fuel + 1) = Schema_symbolNumber_bd2 (ax_F (m + 1)) (Schema_symbolNumber_lp2 (ax_F (m + 1)) fuel) := rfl
    rw [hstep, spIx_n k (fun i hi => hn i (by omega))]
    unfold Schema_symbolNumber_bd2
    rw [if_pos (show (8 : Int32) ≤ Int32.ofInt j from by rw [show (8 : Int32) = Int32.ofInt 8 from rfl, zi_le (by omega) (by omega) (by omega) (by omega)]; omega)]
    rfl
  | succ f ih =>
    intro j fuel hj hjk hn hf
    obtain ⟨fuel, rfl⟩ : ∃ g, fuel = g + 1 := ⟨fuel - 1, by omega⟩
    have hstep : Schema_symbolNumber_lp2 (ax_F (m + 1)) (fuel + 1) = Schema_symbolNumber_bd2 (ax_F (m + 1)) (Schema_symbolNumber_lp2 (ax_F (m + 1)) fuel) := rfl
    have cb := g3 (t + 2 + j)
    obtain ⟨tr, r1, r2, r3⟩ := Sa_row (m := m) S (i := t + 2 + j) (by omega) (by omega)
    rw [hstep]
    unfold Schema_symbolNumber_bd2
    rw [if_neg (show ¬ (8 : Int32) ≤ Int32.ofInt j from by rw [show (8 : Int32) = Int32.ofInt 8 from rfl, zi_le (by omega) (by omega) (by omega) (by omega)]; omega), r1, Option.bind_some, r2, show (2 : Int32) = Int32.ofInt 2 from rfl, zi_add, zi_add, pl_ci r3]
    by_cases z : j = k
    · have : t + 2 + (j : Int) < l := g4 _ (by rw [z]; omega)
      rw [atC_in (by omega) this, pl_ci (De_small (by omega) (by omega)), if_neg (show ¬ isSm (c (t + 2 + j)) from fun y => by rw [z] at y; omega), if_pos (show Int32.ofInt 0 = 0 from rfl), spIx_n k (fun i hi => hn i (by omega))]
      rfl
    · have sm := ksm j (by omega) (by omega)
      have lt : t + 2 + (j : Int) < l := g4 _ (by omega)
      rw [atC_in (by omega) lt] at r3 ⊢
      rw [pl_ci (De_small (by omega) (by omega)), if_pos sm, if_neg (show ¬ Int32.ofInt 1 = 0 from by decide), r1, Option.bind_some, r2, pl_ci r3]
      by_cases w : c (t + 2 + j) = x
      · rw [if_pos (show Int32.ofInt (c (t + 2 + j)) = Int32.ofInt x from by rw [w]), spIx_e k j (by omega) w (fun i h1 h2 y => kd j i h1 h2 (by rw [w, y]))]
        rfl
      · rw [if_neg (show ¬ Int32.ofInt (c (t + 2 + j)) = Int32.ofInt x from by rw [zi_eq (by omega) (by omega) (by omega) (by omega)]; exact w), show (1 : Int32) = Int32.ofInt 1 from rfl, zi_add]
        exact ih (j + 1) fuel (by omega) (by omega) (fun i hi => by
          by_cases y : i = j
          · rw [y]; exact w
          · exact hn i (by omega)) (by omega)
theorem Sa_sym {m : Nat} {h : ax_Hp} {sc l : Nat} {c : Int → Int} {fe fn fu : Nat → Int} {t x : Int} (S : schA h sc l c fe fn fu) (t0 : 0 ≤ t) (t1 : t ≤ 160) (hE : 0 ≤ spE c t) (x0 : -1 ≤ x) (x1 : x < 128) : ax_F (m + 2) 55 [ax_A (some sc), ax_I (Int32.ofInt t), ax_I (Int32.ofInt x)] h = some (.inl (some (ax_I (Int32.ofInt (spIx c (t + 2) x (spSy c (t + 2) 8 0))))), h) := by
  rw [Schema_symbolNumber_F]
  unfold Schema_symbolNumber_b
  exact Sa_symL S t0 t1 hE x0 x1 8 0 ax_fuel (by omega) (by omega) (fun i hi => absurd hi (Nat.not_lt_zero _)) (by unfold ax_fuel; omega)
theorem Sa_scL {m : Nat} {h : ax_Hp} {sc l : Nat} {c : Int → Int} {fe fn fu : Nat → Int} {t : Int} (S : schA h sc l c fe fn fu) (t0 : 0 ≤ t) (t1 : t ≤ 160) (hE : 0 ≤ spE c t) : ∀ (f j fuel : Nat), j + f = 8 → j ≤ spSy c (t + 2) 8 0 → f < fuel → Schema_symbolCount_lp4 (ax_F (m + 1)) fuel (some sc) (Int32.ofInt t) (Int32.ofInt j) (Int32.ofInt j) h = some (.inl (some (ax_I (Int32.ofInt (spSy c (t + 2) 8 0)))), h) := by
  have k8 := (spSy_k (c := c) (p := t + 2) 8 0).2.1
  have ksm := (spSy_k (c := c) (p := t + 2) 8 0).2.2
  obtain ⟨e1, e2, e3⟩ := spE_in t0 hE
  obtain ⟨g1, g2, g3, g4⟩ := Sa_lt S
  generalize spSy c (t + 2) 8 0 = k at *
  intro f
  induction f with
  | zero =>
    intro j fuel hj hjk hf
    obtain ⟨fuel, rfl⟩ : ∃ g, fuel = g + 1 := ⟨fuel - 1, by omega⟩
    have hstep : Schema_symbolCount_lp4 (ax_F (m + 1)) (fuel + 1) = Schema_symbolCount_bd4 (ax_F (m + 1)) (Schema_symbolCount_lp4 (ax_F (m + 1)) fuel) := rfl
    rw [hstep]
    unfold Schema_symbolCount_bd4
    rw [if_pos (show (8 : Int32) ≤ Int32.ofInt j from by rw [show (8 : Int32) = Int32.ofInt 8 from rfl, zi_le (by omega) (by omega) (by omega) (by omega)]; omega), show j = k by omega]
    rfl
  | succ f ih =>
    intro j fuel hj hjk hf
    obtain ⟨fuel, rfl⟩ : ∃ g, fuel = g + 1 := ⟨fuel - 1, by omega⟩
    have hstep : Schema_symbolCount_lp4 (ax_F (m + 1)) (fuel + 1) = Schema_symbolCount_bd4 (ax_F (m + 1)) (Schema_symbolCount_lp4 (ax_F (m + 1)) fuel) := rfl
    have cb := g3 (t + 2 + j)
    obtain ⟨tr, r1, r2, r3⟩ := Sa_row (m := m) S (i := t + 2 + j) (by omega) (by omega)
    rw [hstep]
    unfold Schema_symbolCount_bd4
    rw [if_neg (show ¬ (8 : Int32) ≤ Int32.ofInt j from by rw [show (8 : Int32) = Int32.ofInt 8 from rfl, zi_le (by omega) (by omega) (by omega) (by omega)]; omega), r1, Option.bind_some, r2, show (2 : Int32) = Int32.ofInt 2 from rfl, zi_add, zi_add, pl_ci r3]
    by_cases z : j = k
    · have : t + 2 + (j : Int) < l := g4 _ (by rw [z]; omega)
      rw [atC_in (by omega) this, pl_ci (De_small (by omega) (by omega)), if_neg (show ¬ isSm (c (t + 2 + j)) from fun y => by rw [z] at y; omega), if_pos (show Int32.ofInt 0 = 0 from rfl), z]
      rfl
    · have sm := ksm j (by omega) (by omega)
      have lt : t + 2 + (j : Int) < l := g4 _ (by omega)
      rw [atC_in (by omega) lt, pl_ci (De_small (by omega) (by omega)), if_pos sm, if_neg (show ¬ Int32.ofInt 1 = 0 from by decide), show (1 : Int32) = Int32.ofInt 1 from rfl, zi_add]
      exact ih (j + 1) fuel (by omega) (by omega) (by omega)
theorem Sa_sc {m : Nat} {h : ax_Hp} {sc l : Nat} {c : Int → Int} {fe fn fu : Nat → Int} {t : Int} (S : schA h sc l c fe fn fu) (t0 : 0 ≤ t) (t1 : t ≤ 160) (hE : 0 ≤ spE c t) : ax_F (m + 2) 78 [ax_A (some sc), ax_I (Int32.ofInt t)] h = some (.inl (some (ax_I (Int32.ofInt (spSy c (t + 2) 8 0)))), h) := by
  rw [Schema_symbolCount_F]
  unfold Schema_symbolCount_b
  exact Sa_scL S t0 t1 hE 8 0 ax_fuel (by omega) (by omega) (by unfold ax_fuel; omega)
/-- the default of the E at t: the symbol, -1 without one -/
def spSd (c : Int → Int) (t : Int) : Int := if c (t + 2 + spSy c (t + 2) 8 0) = 61 then c (t + 2 + spSy c (t + 2) 8 0 + 1) else -1
theorem spE_nd {c : Int → Int} {t : Int} (t0 : 0 ≤ t) (h : 0 ≤ spE c t) (hq : ¬ spEq c t) : t + 2 + spSy c (t + 2) 8 0 + 1 = spE c t := by
  obtain ⟨a, b, d⟩ := spE_in t0 h
  unfold spE at h ⊢
  have hq' : ¬ c (t + 2 + spSy c (t + 2) 8 0) = 61 := hq
  rw [if_pos a, if_neg (by omega), if_neg hq', if_pos (by omega)]
theorem Sa_sd {m : Nat} {h : ax_Hp} {sc l : Nat} {c : Int → Int} {fe fn fu : Nat → Int} {t : Int} (S : schA h sc l c fe fn fu) (t0 : 0 ≤ t) (hc : c t = 69) (hE : 0 ≤ spE c t) (he : fe t.toNat = spE c t) : ax_F (m + 2) 76 [ax_A (some sc), ax_I (Int32.ofInt t)] h = some (.inl (some (ax_I (Int32.ofInt (spSd c t)))), h) := by
  obtain ⟨g1, g2, g3, g4⟩ := Sa_lt S
  have tl := g4 t (by omega)
  have k8 := (spSy_k (c := c) (p := t + 2) 8 0).2.1
  have ksm := (spSy_k (c := c) (p := t + 2) 8 0).2.2
  obtain ⟨e1, e2, e3⟩ := spE_in t0 hE
  rw [Schema_symbolDefault_F]
  unfold Schema_symbolDefault_b
  rw [Sa_on S, pl_ci (Sa_end S t0 tl), he]
  unfold spSd
  by_cases d : spEq c t
  · have ee := spE_def t0 hE d
    have d' : c (t + 2 + spSy c (t + 2) 8 0) = 61 := d
    have cb := g3 (t + 2 + spSy c (t + 2) 8 0 + 1)
    obtain ⟨tr, r1, r2, r3⟩ := Sa_row (m := m) S (i := spE c t - 2 - 1) (by omega) (by omega)
    obtain ⟨tr', r1', r2', r3'⟩ := Sa_row (m := m) S (i := spE c t - 2) (by omega) (by omega)
    have hl : spE c t ≤ l := by
      have := spE_b (N := l) g2 t t0 (by omega)
      unfold bd at this
      omega
    rw [r1, Option.bind_some, r2, show (2 : Int32) = Int32.ofInt 2 from rfl, show (1 : Int32) = Int32.ofInt 1 from rfl, zi_sub, zi_sub, pl_ci r3, atC_in (by omega) (by omega), show spE c t - 2 - 1 = t + 2 + spSy c (t + 2) 8 0 by omega, d', if_pos (show Int32.ofInt 61 = 61 from rfl), r1', Option.bind_some, r2', pl_ci r3', atC_in (by omega) (by omega), if_pos rfl, show spE c t - 2 = t + 2 + spSy c (t + 2) 8 0 + 1 by omega]
    rfl
  · have ee := spE_nd t0 hE d
    have d' : ¬ c (t + 2 + spSy c (t + 2) 8 0) = 61 := d
    have hl : spE c t ≤ l := by
      have := spE_b (N := l) g2 t t0 (by omega)
      unfold bd at this
      omega
    obtain ⟨tr, r1, r2, r3⟩ := Sa_row (m := m) S (i := spE c t - 2 - 1) (by omega) (by omega)
    have cb := g3 (spE c t - 2 - 1)
    have ne : c (spE c t - 2 - 1) ≠ 61 := by
      by_cases k1 : spSy c (t + 2) 8 0 = 1
      · rw [show spE c t - 2 - 1 = t + 1 by omega]; omega
      · have := ksm (spSy c (t + 2) 8 0 - 2) (by omega) (by omega)
        rw [show t + 2 + ((spSy c (t + 2) 8 0 - 2 : Nat) : Int) = spE c t - 2 - 1 by omega] at this
        omega
    rw [r1, Option.bind_some, r2, show (2 : Int32) = Int32.ofInt 2 from rfl, show (1 : Int32) = Int32.ofInt 1 from rfl, zi_sub, zi_sub, pl_ci r3, atC_in (by omega) (by omega), if_neg (show ¬ Int32.ofInt (c (spE c t - 2 - 1)) = 61 from by rw [show (61 : Int32) = Int32.ofInt 61 from rfl, zi_eq (by omega) (by omega) (by omega) (by omega)]; exact ne), if_neg d']
    rfl
