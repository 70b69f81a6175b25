theorem gT_A : ∀ D : Nat, D ≤ 5 → gsT D + 1 ≤ hsT (D + 1) ∧ gfT D + 1 ≤ hfT (D + 1) ∧ hsT D ≤ gsT D ∧ hfT D ≤ gfT D := by decide
theorem gT_U : ∀ D : Nat, D ≤ 5 → ∀ i : Nat, i ≤ 3 → -1 + (i : Int) * (hsT D - 2) + hfT D ≤ gfT (D + 1) ∧ -1 + (i : Int) * (hsT D - 2) + hsT D - 2 ≤ gsT (D + 1) := by decide
theorem gT_R : ∀ D : Nat, D ≤ 5 → ∀ i : Nat, i ≤ 5 → -5 + (i : Int) * (gsT D - 6) + gfT D ≤ hfT (D + 1) ∧ -5 + (i : Int) * (gsT D - 6) + gsT D - 2 ≤ hsT (D + 1) := by decide
theorem g_le (c : Int → Int) (D : Nat) (hD : D ≤ 5) (p : Int) : gS c D p ≤ gsT D ∧ gF c D p ≤ gfT D := by
  have := gT_A D hD
  unfold gS gF
  split <;> omega
/-- behind the letter of a holder -/
theorem bS_P {s : mS} {c : Int → Int} {tb o a p y k0 : Int} (R : pr0 s c tb o a p) : (∀ k, k ≠ 26 → k ≠ 38 → (bS (lS s tb (120 * tb + a) (c p) y o) (120 * tb + a) o k0).1 k = s.1 k) ∧ (bS (lS s tb (120 * tb + a) (c p) y o) (120 * tb + a) o k0).1 26 = o + 1 ∧ (bS (lS s tb (120 * tb + a) (c p) y o) (120 * tb + a) o k0).1 38 = k0 ∧ (bS (lS s tb (120 * tb + a) (c p) y o) (120 * tb + a) o k0).2.2.2 = s.2.2.2 ∧ (∀ k, k ≠ 27 → k ≠ 28 → (bS (lS s tb (120 * tb + a) (c p) y o) (120 * tb + a) o k0).2.2.1 k = (lS s tb (120 * tb + a) (c p) y o).2.2.1 k) ∧ (bS (lS s tb (120 * tb + a) (c p) y o) (120 * tb + a) o k0).2.2.1 27 o.toNat = 120 * tb + a ∧ (∀ i : Nat, (i : Int) < o → (bS (lS s tb (120 * tb + a) (c p) y o) (120 * tb + a) o k0).2.2.1 27 i = s.2.2.1 27 i) ∧ (∀ i : Nat, (i : Int) < o → (bS (lS s tb (120 * tb + a) (c p) y o) (120 * tb + a) o k0).2.2.1 28 i = (grS s tb (120 * tb + a) (c p) y o).2.2.1 28 i) ∧ isT (bS (lS s tb (120 * tb + a) (c p) y o) (120 * tb + a) o k0) tb c := by
  obtain ⟨L1, L2, L3, L4, L5, L6, L7, L8, L9⟩ := lS_P (y := y) R
  refine ⟨fun k k1 k2 => ?_, ?_, rfl, L3, fun k k1 k2 => ?_, ?_, fun i hi => ?_, fun i hi => ?_, ?_⟩
  · unfold bS; rw [mI_1, if_neg k2, mI_1, if_neg k1, mU_1, mU_1]; exact L1 k k2
  · unfold bS; rw [mI_1, if_neg (by decide), mI_1, if_pos rfl]
  · unfold bS; rw [mI_2, mI_2, mU_ne _ _ _ _ _ k2, mU_ne _ _ _ _ _ k1]
  · unfold bS; rw [mI_2, mI_2, mU_ne _ _ _ _ _ (by decide), mU_3, if_pos ⟨rfl, rfl⟩]
  · unfold bS; rw [mI_2, mI_2, mU_ne _ _ _ _ _ (by decide), mU_3, if_neg (by omega)]; exact congrFun (L4 27 (by omega) (by decide)) i
  · unfold bS; rw [mI_2, mI_2, mU_3, if_neg (by omega), mU_ne _ _ _ _ _ (by decide)]; exact congrFun (L7 28) i
  · refine isT_of (grS_isT (x := c p) (y := y) R rfl) ?_ ?_
    · unfold bS; rw [mI_2, mI_2, mU_ne _ _ _ _ _ (by decide), mU_ne _ _ _ _ _ (by decide)]
    · unfold bS; rw [mI_2, mI_2, mU_ne _ _ _ _ _ (by decide), mU_ne _ _ _ _ _ (by decide)]
set_option maxHeartbeats 4000000 in
/-- an A -/
theorem simT_A {m : Nat} {h : ax_Hp} {c : Int → Int} {tb : Int} {D : Nat} (E : simT m h c tb D) {s : mS} {o a p y x : Int} (R : pr0 s c tb o a p) (hoD : o + ((D + 1 : Nat) : Int) = 6) (hpar : parOk s c o (c p)) (hy : 0 ≤ y ∧ y < 128) (h39 : s.1 39 = 0) (h7 : 0 ≤ s.1 7 ∧ s.1 7 ≤ 1000000) (hx : 3 * a ≤ 2 * p + x) (hg : x + gF c (D + 1) p ≤ 40) (hA : c p = 65) :
  (0 ≤ spTy c (D + 1) p → ∃ (k : Nat) (s' : mS), (k : Int) ≤ 4 * (spTy c (D + 1) p - p) ∧ (∀ fuel, rs m h tb (fuel + k) p y 2 s = rs m h tb fuel (spTy c (D + 1) p) 0 1 s') ∧ tyP s s' c tb (120 * tb + a) o p (spTy c (D + 1) p) y (spN c (D + 1) p) (D + 1) ∧ 3 * (a + spN c (D + 1) p) ≤ 2 * spTy c (D + 1) p + x + gS c (D + 1) p ∧ exM s s' (spX c (D + 1) p) tb) ∧
  (spTy c (D + 1) p < 0 → ∃ (k : Nat) (s' : mS), (k : Int) ≤ 4 * (170 - p) ∧ (∀ fuel, rs m h tb (fuel + k) p y 2 s = some (.inl (some (ax_I (Int32.ofInt (-1 - spTy c (D + 1) p)))), mH h s')) ∧ glF s s') := by
  have R' := R
  obtain ⟨T, htb, ho, hob, ha, hab, hp, hpr⟩ := R
  have zN := T.2.1
  have hc := T.2.2.2.1
  have hv : ∀ q, 160 ≤ q → c q = 0 := fun q hq => hc q (by omega)
  have lp : p < 160 := lt_of hv (by omega)
  have gA := gT_A D (by omega)
  have gl := g_le c D (by omega) (p + 1)
  have g1 := g_1 c D (p + 1)
  have eg : gF c (D + 1) p = hfT (D + 1) ∧ gS c (D + 1) p = hsT (D + 1) := by unfold gF gS; rw [if_neg (by omega), if_neg (by omega)]; exact ⟨rfl, rfl⟩
  obtain ⟨L1, L2, L3, L4, L5, L6, L7, L8, L9⟩ := lS_P (y := y) R'
  obtain ⟨B1, B2, B3, B4, B5, B6, B7, B8, B9⟩ := bS_P (y := y) (k0 := 2) R'
  have let_ := Model_letter_A (m := m + 5) (h := h) R' hy.1 hy.2 hA (by omega) hpar
  generalize hS0 : bS (lS s tb (120 * tb + a) (c p) y o) (120 * tb + a) o 2 = S0 at *
  have o1 : (o + 1 - 1).toNat = o.toNat := by rw [show o + 1 - 1 = o by omega]
  have m20 : S0.2.2.1 20 (120 * tb + a).toNat = 0 := by rw [B5 20 (by decide) (by decide)]; exact L9.2.2.2.1
  have m17 : S0.2.2.1 17 (120 * tb + a).toNat = 65 := by rw [B5 17 (by decide) (by decide), L9.1]; exact hA
  have R0 : pr0 S0 c tb (o + 1) (a + 1) (p + 1) := by
    refine ⟨B9, htb, B2, by omega, by rw [B5 16 (by decide) (by decide)]; exact L6, by omega, by omega, fun _ => ?_⟩
    rw [o1, B6]
    exact ⟨by omega, by omega, by rw [m20]; omega, by rw [m20]; omega, fun z => absurd m20 z⟩
  have par0 : parOk S0 c (o + 1) (c (p + 1)) := by
    refine Or.inr (Or.inl ?_)
    rw [o1, B6, m17]
    omega
  obtain ⟨I1, I2⟩ := E S0 (o + 1) (a + 1) (p + 1) 0 (x + 1) R0 (by omega) par0 (by omega) ((B1 39 (by decide) (by decide)).trans h39) (by rw [B1 7 (by decide) (by decide)]; exact h7) (by omega) (by omega)
  have B := spTy_b hv D (p + 1) (by omega) (by omega)
  unfold bd at B
  rw [spTy_A hA, spN_s, if_pos hA]
  have step : ∀ fuel, rs m h tb (fuel + 1) p y 2 s = rs m h tb fuel (p + 1) 0 2 S0 := fun fuel => by rw [rs_2 hp.1 (by omega) let_, B3]
  have gl0 : glF s S0 := ⟨fun k _ k2 _ _ _ k5 _ => B1 k k2 k5, B4, fun k _ k1 k2 k3 _ _ _ _ _ => by rw [B5 k k2 k3]; exact L4 k (by omega) k3⟩
  refine ⟨fun z => ?_, fun z => ?_⟩
  · obtain ⟨k, S1, k1, k2, ⟨t1, t26, t2, t3, t16, t16t, t5, t6, t19, t27, t28, t25, tN⟩, k4, kX⟩ := I1 z
    clear I1 I2
    have p27 : S1.2.2.1 27 (o + 1 - 1).toNat = 120 * tb + a := by rw [o1, t27 o.toNat (by omega)]; exact B6
    -- what grow did to the A
    obtain ⟨g1', g2', g3', g4', g5', g6', g7', g8', g9', g10'⟩ := grS_f (s := S0) (t := tb) (n := 120 * tb + (a + 1)) (x := c (p + 1)) (y := 0) (o := o + 1) (by omega) (fun _ => by rw [o1, B6]; exact ⟨by omega, by omega, fun w => absurd m20 w⟩)
    rw [o1, B6, m20] at g6' g7'
    rw [o1, B6] at g8'
    rw [o1] at g9'
    have q17 : S1.2.2.1 17 (120 * tb + a).toNat = 65 := by rw [t5 17 (by omega) (by omega) _ (by omega), g5' 17 (by omega) _ (by omega)]; exact m17
    have be := Model_beh_A (m := m + 7) (h := h) (s := S1) (tb := tb) (p := spTy c D (p + 1)) (o := o + 1) (n := 120 * tb + a) t26 (by omega) (by omega) p27 (by omega) (by omega) q17
    have low : ∀ k, 17 ≤ k → k ≤ 24 → ∀ i : Nat, (i : Int) < 120 * tb + a → S1.2.2.1 k i = S0.2.2.1 k i := fun k h1 h2 i hi => by
      rw [t5 k h1 h2 i (by omega)]
      by_cases j18 : k = 18
      · rw [j18, g6' i (by omega), if_neg (by omega)]
      · by_cases j19 : k = 19
        · rw [j19, g7' i (by omega), if_neg (fun w => w.2.1 rfl)]
        · by_cases j20 : k = 20
          · rw [j20, g8' i (by omega), if_neg (by omega)]
          · exact g5' k (by omega) i (by omega)
    have atn : ∀ k, k = 17 ∨ k = 21 ∨ k = 22 ∨ k = 23 ∨ k = 24 → S1.2.2.1 k (120 * tb + a).toNat = S0.2.2.1 k (120 * tb + a).toNat := fun k hk => by rw [t5 k (by omega) (by omega) _ (by omega)]; exact g5' k hk _ (by omega)
    refine ⟨k + 2, mI (mI S1 38 1) 26 (o + 1 - 1), by omega, fun fuel => ?_, ⟨fun j j1 j2 j3 j4 j5 j6 => ?_, ?_, ?_, fun j j1 j2 j3 j4 j5 j6 j7 j8 => ?_, fun i hi => ?_, ?_, fun j j1 j2 i hi => ?_, fun j j1 j2 i hi => ?_, ⟨?_, ?_, ?_⟩, fun i hi => ?_, fun i hi => ?_, fun i hi => ?_, ?_⟩, by omega, exM_c (exM_r (exM_l kX ((B5 25 (by decide) (by decide)).trans (L4 25 (by omega) (by decide)))) rfl) (fun i => (spX_A hA).symm)⟩
    · rw [show fuel + (k + 2) = fuel + 1 + k + 1 by omega, step, k2, rs_1 (by omega) (by omega) be]
      rfl
    · rw [mI_1, if_neg j1, mI_1, if_neg j5, t1 j j1 j2 j3 j4 j5 j6]; exact B1 j j1 j5
    · rw [mI_1, if_pos rfl]; omega
    · rw [mI_2, mI_2, t2]; exact B4
    · rw [mI_2, mI_2, t3 j j1 j2 j3 j4 j5 j6 j7 j8, B5 j j2 j3]; exact L4 j (by omega) j3
    · rw [mI_2, mI_2, t16 i hi, B5 16 (by decide) (by decide)]; exact L5 i hi
    · rw [mI_2, mI_2, t16t]; omega
    · rw [mI_2, mI_2, low j j1 j2 i hi, B5 j (by omega) (by omega), L7]
    · rw [mI_2, mI_2, t6 j j1 j2 i (by omega), B5 j (by omega) (by omega)]
      have := spN_1 c D (p + 1)
      exact L8 j j1 j2 i (by omega)
    · rw [mI_2, mI_2, t5 19 (by omega) (by omega) _ (by omega), g7' _ (by omega), if_neg (fun w => w.2.1 rfl), B5 19 (by decide) (by decide)]; exact L9.2.2.1
    · rw [mI_2, mI_2, atn 21 (by omega), B5 21 (by decide) (by decide)]; exact L9.2.2.2.2.1
    · rw [mI_2, mI_2, atn 24 (by omega), B5 24 (by decide) (by decide)]; exact L9.2.2.2.2.2.2.2
    · rw [mI_2, mI_2, t27 i (by omega)]; exact B7 i hi
    · rw [mI_2, mI_2, t28 i (by omega), g9' i, if_neg (by omega)]; exact B8 i hi
    · rw [mI_2, mI_2, t25 i (by omega), B5 25 (by decide) (by decide)]; exact congrFun (L4 25 (by omega) (by decide)) i
    · rw [mI_2, mI_2]
      refine ⟨⟨by omega, by omega, hp.1, by rw [q17, hA], fun w => by omega⟩, fun _ => ⟨?_, ?_⟩, fun w => by omega, fun w => by omega⟩
      · rw [t5 18 (by omega) (by omega) _ (by omega), g6' _ (by omega), if_pos ⟨by omega, rfl, rfl⟩]; omega
      · rw [show 120 * tb + a + 1 = 120 * tb + (a + 1) by omega]; exact tN
  · obtain ⟨k, S1, k1, k2, k3⟩ := I2 z
    clear I1 I2
    exact ⟨k + 1, S1, by omega, fun fuel => by rw [show fuel + (k + 1) = fuel + k + 1 by omega, step, k2], gl0.trans k3⟩
