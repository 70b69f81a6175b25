/-- fit with one word changed -/
theorem fbt_up {W : Nat → Int64} {r k r' k' i : Int} {v : Int64} (hi : i = 2 * r + k / 64) (r0 : 0 ≤ r) (k0 : 0 ≤ k) (k1 : k < 120) (r0' : 0 ≤ r') (k0' : 0 ≤ k') (k1' : k' < 120) : fbt (fun m => if m = i.toNat then v else W m) r' k' = if r' = r ∧ k' / 64 = k / 64 then v.toBitVec.getLsbD (k' % 64).toNat else fbt W r' k' := by
  unfold fbt
  by_cases z : r' = r ∧ k' / 64 = k / 64
  · rw [if_pos z]
    show (if (2 * r' + k' / 64).toNat = i.toNat then v else W (2 * r' + k' / 64).toNat).toBitVec.getLsbD _ = _
    rw [if_pos (by rw [hi, z.1, z.2])]
  · rw [if_neg z]
    show (if (2 * r' + k' / 64).toNat = i.toNat then v else W (2 * r' + k' / 64).toNat).toBitVec.getLsbD _ = _
    rw [if_neg (by omega)]
theorem Model_cmpI {m : Nat} {h : ax_Hp} {c d : Int → Int} {N0 N1 r : Int} (k9 : Option Nat → Int32 → ax_Hp → ax_O) (n0 : N0 ≤ 120) (n1 : N1 ≤ 120) (r0 : 0 ≤ r) (r1 : r < N0) : ∀ (kk : Nat) (s : mS) (fuel : Nat), (kk : Int) ≤ N1 → isT s 0 c → isT s 1 d → (∃ D t, D ≤ 6 ∧ gN s.2.2.1 c N0 D r t) → (∀ k, 0 ≤ k → k < N1 → ∃ D t, D ≤ 6 ∧ gN s.2.2.1 d (120 + N1) D (120 + k) t) → (∀ r' k', 0 ≤ r' → r' < N0 → 0 ≤ k' → k' < N1 → (r < r' ∨ (r' = r ∧ (kk : Int) ≤ k')) → fitK s.2.2.1 c d N0 N1 s.2.2.2 r' k') → (∀ k' : Int, 0 ≤ k' → k' < (kk : Int) → fbt s.2.2.2 r k' = false) → kk < fuel → ∃ s', Model_compare_lp42 (ax_F (m + 2)) k9 fuel (some 24) (Int32.ofInt r) (Int32.ofInt ((kk : Int) - 1)) (mH h s) = k9 (some 24) (Int32.ofInt (r - 1)) (mH h s') ∧ s'.1 = s.1 ∧ s'.2.1 = s.2.1 ∧ s'.2.2.1 = s.2.2.1 ∧ (∀ r' k', 0 ≤ r' → r' < N0 → 0 ≤ k' → k' < N1 → r ≤ r' → fitK s'.2.2.1 c d N0 N1 s'.2.2.2 r' k') := by
  intro kk
  induction kk with
  | zero =>
    intro s fuel hk T0 T1 E0 E1 F Z hf
    obtain ⟨fuel, rfl⟩ : ∃ g, fuel = g + 1 := ⟨fuel - 1, by omega⟩
    have hstep : Model_compare_lp42 (ax_F (m + 2)) k9 (fuel + 1) = Model_compare_bd42 (ax_F (m + 2)) k9 (Model_compare_lp42 (ax_F (m + 2)) k9 fuel) := rfl
    refine ⟨s, ?_, rfl, rfl, rfl, fun r' k' a b e f g => F r' k' a b e f (by omega)⟩
    rw [hstep]
    unfold Model_compare_bd42
    rw [if_pos (show Int32.ofInt (((0 : Nat) : Int) - 1) < 0 by decide), show (-1 : Int32) = Int32.ofInt (-1) from rfl, zi_add]
    rfl
  | succ kk ih =>
    intro s fuel hk T0 T1 E0 E1 F Z hf
    obtain ⟨fuel, rfl⟩ : ∃ g, fuel = g + 1 := ⟨fuel - 1, by omega⟩
    have hstep : Model_compare_lp42 (ax_F (m + 2)) k9 (fuel + 1) = Model_compare_bd42 (ax_F (m + 2)) k9 (Model_compare_lp42 (ax_F (m + 2)) k9 fuel) := rfl
    obtain ⟨D1, t, d1, g1⟩ := E0
    obtain ⟨D2, u, d2, g2⟩ := E1 kk (by omega) (by omega)
    have rd := fun (D1 D2 : Nat) (t u : Int) (n : Nat) (g1 : gN s.2.2.1 c N0 D1 r t) (g2 : gN s.2.2.1 d (120 + N1) D2 (120 + (kk : Int)) u) (hn : D1 + D2 ≤ n) => Model_readsNode_z (m := m) (h := h) (n := n) T0 T1 n0 n1 g1 g2 (by omega) hn (fun r' k' a b e f g => F r' k' a b e f (by omega))
    have e0 := rd D1 D2 t u (D1 + D2) g1 g2 (Nat.le_refl _)
    -- any other way to see the nodes gives the same answer
    have same : ∀ (E1 E2 : Nat) (t' u' : Int) (n : Nat), gN s.2.2.1 c N0 E1 r t' → gN s.2.2.1 d (120 + N1) E2 (120 + (kk : Int)) u' → E1 + E2 + 1 ≤ n → crd c d n E1 E2 t' u' = crd c d (D1 + D2 + 1) D1 D2 t u := by
      intro E1 E2 t' u' n h1 h2 hn
      obtain ⟨n, rfl⟩ : ∃ j, n = j + 1 := ⟨n - 1, by omega⟩
      have e1 := rd E1 E2 t' u' n h1 h2 (by omega)
      rw [e0] at e1
      have inj : Int32.ofInt (bI (crd c d (D1 + D2 + 1) D1 D2 t u)) = Int32.ofInt (bI (crd c d (n + 1) E1 E2 t' u')) := by
        have := congrArg (fun o => o.map Prod.fst) e1
        simp only [Option.map_some, Option.some.injEq, Sum.inl.injEq, ax_I] at this
        exact this
      revert inj
      cases crd c d (D1 + D2 + 1) D1 D2 t u <;> cases crd c d (n + 1) E1 E2 t' u' <;> decide
    generalize hb : crd c d (D1 + D2 + 1) D1 D2 t u = b at *
    have hdv := kn_div kk (by omega)
    have hsh := kn_sh kk (by omega)
    have zf := Z kk (by omega) (by omega)
    rw [hstep]
    unfold Model_compare_bd42
    rw [show ((kk + 1 : Nat) : Int) - 1 = (kk : Int) by omega, if_neg (show ¬ Int32.ofInt (kk : Int) < 0 from zi_n0 (by omega) (by omega)), mS_on, show (120 : Int32) = Int32.ofInt 120 from rfl, zi_add, pl_ci e0, mgr_42, Option.bind_some, show ∀ q : ax_O, ax_nz 64 q = q from fun q => if_neg (by decide), hdv, show (2 : Int32) = Int32.ofInt 2 from rfl, zi_mul, zi_add, mld_42 h s _ (by omega) (by omega), Option.bind_some]
    -- what stands in fit behind this pair
    have go : ∀ x : Int64, (∀ k' : Int, 0 ≤ k' → k' < 120 → k' / 64 = (kk : Int) / 64 → ((s.2.2.2 (2 * r + ((kk / 64 : Nat) : Int)).toNat ||| x).toBitVec.getLsbD (k' % 64).toNat) = (fbt s.2.2.2 r k' || (decide (k' = (kk : Int)) && b))) → ∃ s', Model_compare_jn84 (ax_F (m + 2)) k9 (Model_compare_lp42 (ax_F (m + 2)) k9 fuel) (some 24) (Int32.ofInt r) (Int32.ofInt (kk : Int)) x (s.2.2.2 (2 * r + ((kk / 64 : Nat) : Int)).toNat) (Int32.ofInt (2 * r + ((kk / 64 : Nat) : Int))) (some 53) (mH h s) = k9 (some 24) (Int32.ofInt (r - 1)) (mH h s') ∧ s'.1 = s.1 ∧ s'.2.1 = s.2.1 ∧ s'.2.2.1 = s.2.2.1 ∧ (∀ r' k', 0 ≤ r' → r' < N0 → 0 ≤ k' → k' < N1 → r ≤ r' → fitK s'.2.2.1 c d N0 N1 s'.2.2.2 r' k') := by
      intro x hx
      have up : ∀ r' k' : Int, 0 ≤ r' → 0 ≤ k' → k' < 120 → fbt (mW s (2 * r + ((kk / 64 : Nat) : Int)) (s.2.2.2 (2 * r + ((kk / 64 : Nat) : Int)).toNat ||| x)).2.2.2 r' k' = (fbt s.2.2.2 r' k' || (decide (r' = r ∧ k' = (kk : Int)) && b)) := by
        intro r' k' a1 a2 a3
        have := fbt_up (W := s.2.2.2) (r := r) (k := kk) (r' := r') (k' := k') (v := s.2.2.2 (2 * r + ((kk / 64 : Nat) : Int)).toNat ||| x) (i := 2 * r + ((kk / 64 : Nat) : Int)) (by omega) r0 (by omega) (by omega) a1 a2 a3
        refine this.trans ?_
        by_cases z : r' = r ∧ k' / 64 = (kk : Int) / 64
        · rw [if_pos z, hx k' a2 a3 z.2, z.1]
          by_cases y : k' = (kk : Int)
          · rw [decide_eq_true y, decide_eq_true ⟨rfl, y⟩]
          · rw [decide_eq_false y, decide_eq_false (fun w => y w.2)]
        · rw [if_neg z, decide_eq_false (fun w => z ⟨w.1, by rw [w.2]⟩), Bool.false_and, Bool.or_false]
      have st := mst_42 h s (2 * r + ((kk / 64 : Nat) : Int)) (s.2.2.2 (2 * r + ((kk / 64 : Nat) : Int)).toNat ||| x) (by omega) (by omega)
      unfold Model_compare_jn84
      rw [st, Option.bind_some, show (-1 : Int32) = Int32.ofInt (-1) from rfl, zi_add]
      obtain ⟨s', y1, y2, y3, y4, y5⟩ := ih (mW s (2 * r + ((kk / 64 : Nat) : Int)) (s.2.2.2 (2 * r + ((kk / 64 : Nat) : Int)).toNat ||| x)) fuel (by omega) (isT_of T0 rfl rfl) (isT_of T1 rfl rfl) ⟨D1, t, d1, g1⟩ E1 (fun r' k' a1 a2 a3 a4 a5 => by
        intro E1 t' E2 u' n h1 h2 hn
        rw [up r' k' a1 a3 (by omega)]
        by_cases y : r' = r ∧ k' = (kk : Int)
        · obtain ⟨y1, y2⟩ := y
          rw [y1] at h1
          rw [y2] at h2
          rw [y1, y2]
          rw [zf, Bool.false_or, decide_eq_true ⟨rfl, rfl⟩, Bool.true_and]
          exact (same E1 E2 t' u' n h1 h2 hn).symm
        · rw [decide_eq_false y, Bool.false_and, Bool.or_false]
          exact F r' k' a1 a2 a3 a4 (by omega) E1 t' E2 u' n h1 h2 hn) (fun k' a1 a2 => by
        rw [up r k' r0 a1 (by omega), decide_eq_false (by omega), Bool.false_and, Bool.or_false]
        exact Z k' a1 (by omega)) (by omega)
      exact ⟨s', y1, y2, y3, y4, y5⟩
    cases b with
    | false =>
      rw [if_pos (show Int32.ofInt (bI false) = 0 from rfl)]
      refine go 0 (fun k' a1 a2 a3 => ?_)
      rw [Int64.or_zero, Bool.and_false, Bool.or_false]
      unfold fbt
      rw [a3, show 2 * r + (kk : Int) / 64 = 2 * r + ((kk / 64 : Nat) : Int) by omega]
    | true =>
      rw [if_neg (show ¬ Int32.ofInt (bI true) = 0 from by decide), show ∀ q : ax_O, ax_nz 64 q = q from fun q => if_neg (by decide), hsh]
      refine go _ (fun k' a1 a2 a3 => ?_)
      rw [Int64.toBitVec_or, kn_one (kk % 64) (by omega), BitVec.getLsbD_or, BitVec.getLsbD_twoPow, Bool.and_true]
      unfold fbt
      rw [a3, show 2 * r + (kk : Int) / 64 = 2 * r + ((kk / 64 : Nat) : Int) by omega]
      congr 1
      by_cases y : k' = (kk : Int)
      · rw [decide_eq_true y, y, decide_eq_true (by omega), decide_eq_true (by omega)]; rfl
      · rw [decide_eq_false y, decide_eq_false (show ¬ kk % 64 = (k' % 64).toNat by omega), Bool.and_false]
theorem Model_cmpO {m : Nat} {h : ax_Hp} {c d : Int → Int} {N0 N1 : Int} (n0 : N0 ≤ 120) (n1 : N1 ≤ 120) (h0 : 1 ≤ N0) (h1 : 1 ≤ N1) : ∀ (rr : Nat) (s : mS) (fuel : Nat), (rr : Int) ≤ N0 → isT s 0 c → isT s 1 d → s.2.2.1 16 1 = N1 → (∀ r, 0 ≤ r → r < N0 → ∃ D t, D ≤ 6 ∧ gN s.2.2.1 c N0 D r t) → (∀ k, 0 ≤ k → k < N1 → ∃ D t, D ≤ 6 ∧ gN s.2.2.1 d (120 + N1) D (120 + k) t) → (∀ r' k', 0 ≤ r' → r' < N0 → 0 ≤ k' → k' < N1 → (rr : Int) ≤ r' → fitK s.2.2.1 c d N0 N1 s.2.2.2 r' k') → rr < fuel → ∃ s', Model_compare_lp9 (ax_F (m + 2)) fuel (some 24) (Int32.ofInt ((rr : Int) - 1)) (mH h s) = some (.inl (some (ax_I (Int32.ofInt (bI (fbt s'.2.2.2 0 0))))), mH h s') ∧ s'.1 = s.1 ∧ s'.2.1 = s.2.1 ∧ s'.2.2.1 = s.2.2.1 ∧ (∀ r' k', 0 ≤ r' → r' < N0 → 0 ≤ k' → k' < N1 → fitK s'.2.2.1 c d N0 N1 s'.2.2.2 r' k') := by
  intro rr
  induction rr with
  | zero =>
    intro s fuel hr T0 T1 c1 E0 E1 F hf
    obtain ⟨fuel, rfl⟩ : ∃ g, fuel = g + 1 := ⟨fuel - 1, by omega⟩
    have hstep : Model_compare_lp9 (ax_F (m + 2)) (fuel + 1) = Model_compare_bd9 (ax_F (m + 2)) (Model_compare_lp9 (ax_F (m + 2)) fuel) := rfl
    refine ⟨s, ?_, rfl, rfl, rfl, fun r' k' a b e f => F r' k' a b e f (by omega)⟩
    have kn := Model_knows_z (m := m + 1) (h := h) (s := s) (r := 0) (k := 0) (by omega) (by omega) (by omega) (by omega)
    rw [hstep]
    unfold Model_compare_bd9
    rw [if_pos (show Int32.ofInt (((0 : Nat) : Int) - 1) < 0 by decide), mS_on, show (120 : Int32) = Int32.ofInt (120 + 0) from rfl, zi_0, pl_ci kn]
    exact za_rz (bI_01 _)
  | succ rr ih =>
    intro s fuel hr T0 T1 c1 E0 E1 F hf
    obtain ⟨fuel, rfl⟩ : ∃ g, fuel = g + 1 := ⟨fuel - 1, by omega⟩
    have hstep : Model_compare_lp9 (ax_F (m + 2)) (fuel + 1) = Model_compare_bd9 (ax_F (m + 2)) (Model_compare_lp9 (ax_F (m + 2)) fuel) := rfl
    rw [hstep]
    unfold Model_compare_bd9
    rw [show ((rr + 1 : Nat) : Int) - 1 = (rr : Int) by omega, if_neg (show ¬ Int32.ofInt (rr : Int) < 0 from zi_n0 (by omega) (by omega)), mgr_42, Option.bind_some, show (2 : Int32) = Int32.ofInt 2 from rfl, zi_mul, mst_42 h s _ _ (by omega) (by omega), Option.bind_some, mgr_42, Option.bind_some, show (1 : Int32) = Int32.ofInt 1 from rfl, zi_add, mst_42 h _ _ _ (by omega) (by omega), Option.bind_some, mgr_16, Option.bind_some, mld_16 h _ 1 (by omega) (by omega), Option.bind_some, mW_3, mW_3, show Int.toNat 1 = 1 from rfl, c1, zi_sub]
    generalize hs1 : mW (mW s (2 * (rr : Int)) 0) (2 * (rr : Int) + 1) 0 = s1
    have a1 : s1.1 = s.1 := by rw [← hs1]; rfl
    have a2 : s1.2.1 = s.2.1 := by rw [← hs1]; rfl
    have a3 : s1.2.2.1 = s.2.2.1 := by rw [← hs1]; rfl
    have zero : ∀ k' : Int, 0 ≤ k' → k' < 120 → fbt s1.2.2.2 (rr : Int) k' = false := by
      intro k' b1 b2
      unfold fbt
      rw [← hs1]
      have : (mW (mW s (2 * (rr : Int)) 0) (2 * (rr : Int) + 1) 0).2.2.2 (2 * (rr : Int) + k' / 64).toNat = 0 := by
        rw [mW_4]
        by_cases z : (2 * (rr : Int) + k' / 64).toNat = (2 * (rr : Int) + 1).toNat
        · rw [if_pos z]
        · rw [if_neg z, mW_4, if_pos (by omega)]
      rw [this]
      exact BitVec.getLsbD_zero
    have keep : ∀ r' k' : Int, (rr : Int) < r' → 0 ≤ k' → k' < 120 → fbt s1.2.2.2 r' k' = fbt s.2.2.2 r' k' := by
      intro r' k' b0 b1 b2
      unfold fbt
      rw [← hs1, mW_4, if_neg (by omega), mW_4, if_neg (by omega)]
    obtain ⟨k1, hk1⟩ : ∃ j : Nat, N1 = j := ⟨N1.toNat, by omega⟩
    have T0' : isT s1 0 c := isT_of T0 (by rw [a3]) (by rw [a3])
    have T1' : isT s1 1 d := isT_of T1 (by rw [a3]) (by rw [a3])
    obtain ⟨s2, y1, y2, y3, y4, y5⟩ := Model_cmpI (m := m) (h := h) (c := c) (d := d) (N0 := N0) (N1 := N1) (r := rr) (Model_compare_lp9 (ax_F (m + 2)) fuel) n0 n1 (by omega) (by omega) k1 s1 ax_fuel (by omega) T0' T1' (by rw [a3]; exact E0 rr (by omega) (by omega)) (by rw [a3]; exact E1) (fun r' k' b1 b2 b3 b4 b5 => by
      intro D1 t D2 u n g1 g2 hn
      rw [keep r' k' (by omega) b3 (by omega)]
      rw [a3] at g1 g2
      exact F r' k' b1 b2 b3 b4 (by omega) D1 t D2 u n g1 g2 hn) (fun k' b1 b2 => zero k' b1 (by omega)) (by unfold ax_fuel; omega)
    rw [hk1, y1]
    have b3 : s2.2.2.1 = s.2.2.1 := y4.trans a3
    obtain ⟨s', z1, z2, z3, z4, z5⟩ := ih s2 fuel (by omega) (isT_of T0 (by rw [b3]) (by rw [b3])) (isT_of T1 (by rw [b3]) (by rw [b3])) (by rw [b3]; exact c1) (by rw [b3]; exact E0) (by rw [b3]; exact E1) (fun r' k' b1 b2 b3 b4 b5 => y5 r' k' b1 b2 b3 b4 b5) (by omega)
    exact ⟨s', z1, z2.trans (y2.trans a1), z3.trans (y3.trans a2), z4.trans b3, by rw [← hk1]; exact z5⟩
/-- compare: the answer, and fit for every pair of nodes -/
theorem Model_compare_z {m : Nat} {h : ax_Hp} {s : mS} {c d : Int → Int} (T0 : isT s 0 c) (T1 : isT s 1 d) (P0 : tbP s c 0) (P1 : tbP s d 1) (t0 : 0 ≤ spTy c 6 0) (t1 : 0 ≤ spTy d 6 0) : ∃ s', ax_F (m + 3) 181 [ax_A (some 24)] (mH h s) = some (.inl (some (ax_I (Int32.ofInt (bI (crd c d 13 6 6 0 0))))), mH h s') ∧ s'.1 = s.1 ∧ s'.2.1 = s.2.1 ∧ s'.2.2.1 = s.2.2.1 ∧ (∀ r' k', 0 ≤ r' → r' < spN c 6 0 → 0 ≤ k' → k' < spN d 6 0 → fitK s'.2.2.1 c d (spN c 6 0) (spN d 6 0) s'.2.2.2 r' k') := by
  obtain ⟨p1, p2, p3⟩ := P0
  obtain ⟨q1, q2, q3⟩ := P1
  have m0 := spN_1 c 6 0
  have m1 := spN_1 d 6 0
  rw [show (120 : Int) * 0 = 0 from rfl] at p1
  rw [show (120 : Int) * 1 = 120 from rfl] at q1
  have G0 : gN s.2.2.1 c (spN c 6 0) 6 0 0 := ⟨p1, by omega, by omega, t0⟩
  have G1 : gN s.2.2.1 d (120 + spN d 6 0) 6 120 0 := ⟨q1, by omega, by omega, t1⟩
  obtain ⟨rr, hrr⟩ : ∃ j : Nat, spN c 6 0 = j := ⟨(spN c 6 0).toNat, by omega⟩
  rw [Model_compare_F]
  unfold Model_compare_b
  rw [mgr_16, Option.bind_some, zi_0, mld_16 h s 0 (by omega) (by omega), Option.bind_some, show s.2.2.1 16 (Int.toNat 0) = spN c 6 0 from p2, show (1 : Int32) = Int32.ofInt 1 from rfl, zi_sub, hrr]
  obtain ⟨s', y1, y2, y3, y4, y5⟩ := Model_cmpO (m := m) (h := h) (c := c) (d := d) (N0 := spN c 6 0) (N1 := spN d 6 0) p3 q3 m0 m1 rr s ax_fuel (by omega) T0 T1 q2 (fun r a b => gN_ex T0.1 T0.2.2.2.1 6 0 0 G0 r (by omega) (by omega)) (fun k a b => gN_ex T1.1 T1.2.2.2.1 6 120 0 G1 (120 + k) (by omega) (by omega)) (fun r' k' a1 a2 a3 a4 a5 => absurd a5 (by omega)) (by unfold ax_fuel; omega)
  have e := y5 0 0 (by omega) (by omega) (by omega) (by omega) 6 0 6 0 13 (by rw [y4]; exact G0) (by rw [y4]; exact G1) (by omega)
  rw [e] at y1
  rw [hrr] at y5
  exact ⟨s', y1, y2, y3, y4, y5⟩
