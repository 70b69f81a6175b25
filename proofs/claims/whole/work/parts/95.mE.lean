/-- the place of the = of the E at p; 0 without one -/
def spEq (c : Int → Int) (p : Int) : Prop := c (p + 2 + spSy c (p + 2) 8 0) = 61
theorem Model_readSymbols_z {m : Nat} {h : ax_Hp} {s : mS} {tb n p : Int} {c : Int → Int} (T : isT s tb c) (tb0 : 0 ≤ tb) (tb1 : tb < 2) (n0 : 0 ≤ n) (n1 : n < 240) (p0 : 0 ≤ p) (hE : c p = 69) (hm : s.2.2.1 20 n.toNat = 0) (hst : s.2.2.1 23 n.toNat = -1) :
    ∃ s', ax_F (m + 2) 174 [ax_A (some 24), ax_I (Int32.ofInt tb), ax_I (Int32.ofInt n), ax_I (Int32.ofInt (p + 1))] (mH h s) = some (.inl (some (ax_I (Int32.ofInt (spE c p)))), mH h s') ∧ s'.1 = s.1 ∧ s'.2.2.2 = s.2.2.2 ∧ (∀ j, j ≠ 20 → j ≠ 22 → j ≠ 23 → j ≠ 25 → s'.2.2.1 j = s.2.2.1 j) ∧ (∀ j, j = 20 ∨ j = 22 ∨ j = 23 → ∀ i : Nat, i ≠ n.toNat → s'.2.2.1 j i = s.2.2.1 j i) ∧ (0 ≤ spE c p → eN s'.2.2.1 c n p ∧ ∀ i : Nat, s'.2.2.1 25 i = if c (p + 2 + spSy c (p + 2) 8 0) = 61 ∧ ((i : Int) = 160 * tb + (p + 2 + spSy c (p + 2) 8 0) ∨ (i : Int) = 160 * tb + (p + 2 + spSy c (p + 2) 8 0) + 1) then 1 else s.2.2.1 25 i) := by
  have hN := T.2.2.2.1
  have zN := T.2.1
  have b1 := T.2.2.2.2 (p + 1)
  have lp := lt_of hN (q := p) (by omega)
  rw [Model_readSymbols_F]
  unfold Model_readSymbols_b spE
  rw [mS_on, pl_ci (Model_look_z T tb0 tb1 (by omega) (by omega))]
  by_cases c1 : c (p + 1) = 40
  · have lp1 := lt_of hN (q := p + 1) (by omega)
    rw [if_pos c1, if_pos (show Int32.ofInt (c (p + 1)) = 40 from by rw [c1]; rfl), mgr_22, Option.bind_some, show (1 : Int32) = Int32.ofInt 1 from rfl, zi_add, show p + 1 + 1 = p + 2 by omega, mst_22 _ _ _ _ n0 n1, Option.bind_some]
    have T1 : isT (mU s 22 n (p + 2)) tb c := isT_U T 22 n _ (by decide) (by decide)
    obtain ⟨s1, e1, r1, r2, r3, r4, r5, r6⟩ := Model_readSymbols_l (m := m) (h := h) (tb := tb) (n := n) (p := p + 2) (c := c) tb0 tb1 n0 n1 (by omega) (by omega) 8 0 ax_fuel (mU s 22 n (p + 2)) T1 (by rw [mU_ne _ _ _ _ _ (by decide)]; omega) (by rw [mU_ne _ _ _ _ _ (by decide)]; exact hm) (by rw [mU_3, if_pos ⟨rfl, rfl⟩]) (by omega) (by unfold ax_fuel; omega)
    rw [show p + 2 + ((0 : Nat) : Int) = p + 2 by omega] at e1
    rw [e1]
    have T2 : isT s1 tb c := isT_of T1 (r4 15 (by decide)) (r4 14 (by decide))
    have k8 := (spSy_k (c := c) (p := p + 2) 8 0).2.1
    have kN := spSy_n hN (p := p + 2) (by omega) _ rfl
    generalize hk : spSy c (p + 2) 8 0 = k at *
    generalize hq : p + 2 + (k : Int) = q at *
    have bq := T.2.2.2.2 q
    have bq1 := T.2.2.2.2 (q + 1)
    have bq2 := T.2.2.2.2 (q + 2)
    have zz : s1.2.2.1 15 = s.2.2.1 15 := (r4 15 (by decide)).trans (mU_ne _ _ _ _ _ (by decide))
    have A22 : s1.2.2.1 22 n.toNat = p + 2 := by rw [r4 22 (by decide), mU_3, if_pos ⟨rfl, rfl⟩]
    have A23 : s1.2.2.1 23 n.toNat = -1 := by rw [r4 23 (by decide), mU_ne _ _ _ _ _ (by decide)]; exact hst
    have A25 : s1.2.2.1 25 = s.2.2.1 25 := (r4 25 (by decide)).trans (mU_ne _ _ _ _ _ (by decide))
    have O1 : ∀ j, j ≠ 20 → j ≠ 22 → s1.2.2.1 j = s.2.2.1 j := fun j j1 j2 => (r4 j j1).trans (mU_ne _ _ _ _ _ j2)
    have O2 : ∀ j, j = 20 ∨ j = 22 ∨ j = 23 → ∀ i : Nat, i ≠ n.toNat → s1.2.2.1 j i = s.2.2.1 j i := fun j hj i hi => by
      rcases hj with rfl | rfl | rfl
      · rw [r5 i hi, mU_ne _ _ _ _ _ (by decide)]
      · rw [r4 22 (by decide), mU_3, if_neg (fun z => hi z.2)]
      · rw [r4 23 (by decide), mU_ne _ _ _ _ _ (by decide)]
    unfold Model_readSymbols_jn87
    rw [mgr_20, Option.bind_some, mld_20 _ _ _ n0 n1, Option.bind_some, r6]
    by_cases c2 : k = 0
    · rw [if_pos c2, if_pos (show Int32.ofInt (k : Int) = 0 from by rw [c2]; rfl)]
      refine ⟨s1, ?_, r1, r3, fun j j1 j2 _ _ => O1 j j1 j2, O2, fun z => absurd z (by omega)⟩
      rw [show (-1 : Int32) = Int32.ofInt (-1) from rfl, zi_sub, show q = p + 2 by omega]
      rfl
    · rw [if_neg c2, if_neg (show ¬ Int32.ofInt (k : Int) = 0 from by rw [zi_0, zi_eq (by omega) (by omega) (by omega) (by omega)]; omega), mS_on, pl_ci (Model_look_z T2 tb0 tb1 (by omega) (by omega))]
      unfold Model_readSymbols_jn187
      by_cases c3 : c q = 61
      · have lq := lt_of hN (q := q) (by omega)
        rw [if_pos c3, if_pos (show Int32.ofInt (c q) = 61 from by rw [c3]; rfl), mgr_25, Option.bind_some, show (160 : Int32) = Int32.ofInt 160 from rfl, zi_mul, zi_add, show (1 : Int32) = Int32.ofInt 1 from rfl, mstz_25 _ _ _ _ (by omega) (by omega) (Or.inr rfl), Option.bind_some]
        have T3 : isT (mU s1 25 (160 * tb + q) 1) tb c := isT_U T2 25 _ _ (by decide) (by decide)
        have hsy := Model_symbol_z (m := m) (h := h) (s := mU s1 25 (160 * tb + q) 1) (t := tb) (n := n) (x := c (q + 1)) (p0 := p + 2) (c := c) (k := k) T3 tb0 tb1 n0 n1 (by rw [mU_ne _ _ _ _ _ (by decide)]; exact r6) (by omega) (by rw [mU_ne _ _ _ _ _ (by decide)]; exact A22) (by omega) (by rw [mU_ne _ _ _ _ _ (by decide), zz]; omega) bq1.1 (by omega)
        have r := spIx_r (c := c) (p := p + 2) (x := c (q + 1)) k
        rw [mS_on, zi_add, pl_ci (Model_look_z T3 tb0 tb1 (by omega) (by omega)), mS_on, pl_ci hsy]
        by_cases c4 : spIx c (p + 2) (c (q + 1)) k < 0
        · rw [if_pos c4, if_neg (show ¬ (0 : Int32) ≤ Int32.ofInt (spIx c (p + 2) (c (q + 1)) k) from by rw [zi_0, zi_le (by omega) (by omega) (by omega) (by omega)]; omega)]
          refine ⟨mU s1 25 (160 * tb + q) 1, ?_, r1, r3, fun j j1 j2 _ j4 => (mU_ne _ _ _ _ _ j4).trans (O1 j j1 j2), fun j hj i hi => by rw [mU_ne _ _ _ _ _ (by omega)]; exact O2 j hj i hi, fun z => absurd z (by omega)⟩
          rw [zi_neg, zi_sub]
          rfl
        · have lq1 : q + 1 < s.2.2.1 15 tb.toNat := by
            obtain ⟨j, j1, j2⟩ := spIx_c (c := c) (p := p + 2) k (Int.not_lt.mp c4)
            have := (spSy_k (c := c) (p := p + 2) 8 0).2.2 j (Nat.zero_le _) (by omega)
            exact lt_of hN (by omega)
          rw [if_neg c4, if_pos (show (0 : Int32) ≤ Int32.ofInt (spIx c (p + 2) (c (q + 1)) k) from by rw [zi_0, zi_le (by omega) (by omega) (by omega) (by omega)]; omega), mgr_25, Option.bind_some, zi_add (160 * tb) (q + 1), mstz_25 _ _ _ _ (by omega) (by omega) (Or.inr rfl), Option.bind_some, mgr_23, Option.bind_some]
          have T4 : isT (mU (mU s1 25 (160 * tb + q) 1) 25 (160 * tb + (q + 1)) 1) tb c := isT_U T3 25 _ _ (by decide) (by decide)
          have hsy2 := Model_symbol_z (m := m) (h := h) (s := mU (mU s1 25 (160 * tb + q) 1) 25 (160 * tb + (q + 1)) 1) (t := tb) (n := n) (x := c (q + 1)) (p0 := p + 2) (c := c) (k := k) T4 tb0 tb1 n0 n1 (by rw [mU_ne _ _ _ _ _ (by decide), mU_ne _ _ _ _ _ (by decide)]; exact r6) (by omega) (by rw [mU_ne _ _ _ _ _ (by decide), mU_ne _ _ _ _ _ (by decide)]; exact A22) (by omega) (by rw [mU_ne _ _ _ _ _ (by decide), mU_ne _ _ _ _ _ (by decide), zz]; omega) bq1.1 (by omega)
          rw [mS_on, pl_ci (Model_look_z T4 tb0 tb1 (by omega) (by omega)), mS_on, pl_ci hsy2, mst_23 _ _ _ _ n0 n1, Option.bind_some, zi_add (q + 1) 1, mS_on]
          have T5 : isT (mU (mU (mU s1 25 (160 * tb + q) 1) 25 (160 * tb + (q + 1)) 1) 23 n (spIx c (p + 2) (c (q + 1)) k)) tb c := isT_U T4 23 _ _ (by decide) (by decide)
          rw [show q + 1 + 1 = q + 2 by omega, pl_ci (Model_look_z T5 tb0 tb1 (by omega) (by omega))]
          refine ⟨mU (mU (mU s1 25 (160 * tb + q) 1) 25 (160 * tb + (q + 1)) 1) 23 n (spIx c (p + 2) (c (q + 1)) k), ?_, r1, r3, fun j j1 j2 j3 j4 => by rw [mU_ne _ _ _ _ _ j3, mU_ne _ _ _ _ _ j4, mU_ne _ _ _ _ _ j4]; exact O1 j j1 j2, fun j hj i hi => ?_, fun z => ⟨⟨?_, ?_, ?_, c1⟩, fun i => ?_⟩⟩
          · by_cases c5 : c (q + 2) = 41
            · rw [if_pos c5, if_pos (show Int32.ofInt (c (q + 2)) = 41 from by rw [c5]; rfl), zi_add, show q + 2 + 1 = q + 3 by omega]
              rfl
            · rw [if_neg c5, if_neg (show ¬ Int32.ofInt (c (q + 2)) = 41 from by rw [show (41 : Int32) = Int32.ofInt 41 from rfl, zi_eq (by omega) (by omega) (by omega) (by omega)]; exact c5), zi_neg, zi_sub]
              rfl
          · by_cases j23 : j = 23
            · rw [j23, mU_3, if_neg (fun z => hi z.2), mU_ne _ _ _ _ _ (by decide), mU_ne _ _ _ _ _ (by decide)]
              exact O2 23 (by omega) i hi
            · rw [mU_ne _ _ _ _ _ j23, mU_ne _ _ _ _ _ (by omega), mU_ne _ _ _ _ _ (by omega)]
              exact O2 j hj i hi
          · rw [mU_ne _ _ _ _ _ (by decide), mU_ne _ _ _ _ _ (by decide), mU_ne _ _ _ _ _ (by decide)]; exact A22
          · rw [mU_ne _ _ _ _ _ (by decide), mU_ne _ _ _ _ _ (by decide), mU_ne _ _ _ _ _ (by decide), hk]; exact r6
          · rw [mU_3, if_pos ⟨rfl, rfl⟩, hk, hq, if_pos c3]
          · rw [mU_ne _ _ _ _ _ (by decide), mU_3, mU_3, A25]
            by_cases i1 : (i : Int) = 160 * tb + q
            · rw [if_neg (by omega), if_pos ⟨rfl, by omega⟩, if_pos ⟨c3, Or.inl i1⟩]
            · by_cases i2 : (i : Int) = 160 * tb + q + 1
              · rw [if_pos ⟨rfl, by omega⟩, if_pos ⟨c3, Or.inr i2⟩]
              · rw [if_neg (by omega), if_neg (by omega), if_neg (by omega)]
      · rw [if_neg c3, if_neg (show ¬ Int32.ofInt (c q) = 61 from by rw [show (61 : Int32) = Int32.ofInt 61 from rfl, zi_eq (by omega) (by omega) (by omega) (by omega)]; exact c3), mS_on, pl_ci (Model_look_z T2 tb0 tb1 (by omega) (by omega))]
        refine ⟨s1, ?_, r1, r3, fun j j1 j2 _ _ => O1 j j1 j2, O2, fun z => ⟨⟨A22, by rw [hk]; exact r6, by rw [hk, hq, if_neg c3]; exact A23, c1⟩, fun i => by rw [if_neg (fun z => c3 z.1), A25]⟩⟩
        by_cases c5 : c q = 41
        · rw [if_pos c5, if_pos (show Int32.ofInt (c q) = 41 from by rw [c5]; rfl), show (1 : Int32) = Int32.ofInt 1 from rfl, zi_add]
          rfl
        · rw [if_neg c5, if_neg (show ¬ Int32.ofInt (c q) = 41 from by rw [show (41 : Int32) = Int32.ofInt 41 from rfl, zi_eq (by omega) (by omega) (by omega) (by omega)]; exact c5), show (-1 : Int32) = Int32.ofInt (-1) from rfl, zi_sub]
          rfl
  · rw [if_neg c1, if_neg (show ¬ Int32.ofInt (c (p + 1)) = 40 from by rw [show (40 : Int32) = Int32.ofInt 40 from rfl, zi_eq (by omega) (by omega) (by omega) (by omega)]; exact c1)]
    refine ⟨s, ?_, rfl, rfl, fun _ _ _ _ _ => rfl, fun _ _ _ _ => rfl, fun z => absurd z (by omega)⟩
    rw [show (-1 : Int32) = Int32.ofInt (-1) from rfl, zi_sub]
    rfl
