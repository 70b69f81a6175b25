/-- what reading a whole text as a schema answers: -1 if it is one, else the place of the fault -/
def spRes (c : Int → Int) (N : Int) : Int := if 0 ≤ spTy c 6 0 then (if spTy c 6 0 = N then -1 else spTy c 6 0) else -1 - spTy c 6 0
/-- what is as it was when table tb has been read -/
def ldF (s s' : mS) (tb : Int) : Prop := (∀ k, k ≠ 777 → k ≠ 26 → k ≠ 29 → k ≠ 30 → k ≠ 31 → k ≠ 38 → k ≠ 39 → k ≠ 40 → s'.1 k = s.1 k) ∧ s'.2.2.2 = s.2.2.2 ∧ (∀ k, k ≠ 8 → (k < 16 ∨ 25 < k) → k ≠ 27 → k ≠ 28 → k ≠ 32 → k ≠ 33 → k ≠ 34 → k ≠ 35 → k ≠ 41 → s'.2.2.1 k = s.2.2.1 k)
/-- table tb holds the schema c -/
def tbP (s' : mS) (c : Int → Int) (tb : Int) : Prop := NdS s'.2.2.1 c 6 (120 * tb) 0 ∧ s'.2.2.1 16 tb.toNat = spN c 6 0 ∧ spN c 6 0 ≤ 120
/-- the marks of table tb -/
def tbM (s' : mS) (c : Int → Int) (tb : Int) : Prop := ∀ p : Int, 0 ≤ p → p < 160 → (spX c 6 0 p → s'.2.2.1 25 (160 * tb + p).toNat = 1) ∧ (¬ spX c 6 0 p → s'.2.2.1 25 (160 * tb + p).toNat = 0)
/-- the other table -/
def otF (s s' : mS) (tb : Int) : Prop := (∀ i : Nat, i ≠ tb.toNat → s'.2.2.1 16 i = s.2.2.1 16 i) ∧ (∀ k, 17 ≤ k → k ≤ 24 → ∀ i : Nat, ((i : Int) < 120 * tb ∨ 120 * tb + 120 ≤ i) → s'.2.2.1 k i = s.2.2.1 k i) ∧ (∀ i : Nat, ((i : Int) < 160 * tb ∨ 160 * tb + 160 ≤ i) → s'.2.2.1 25 i = s.2.2.1 25 i)
theorem Model_readSchema_z {m : Nat} {h : ax_Hp} {s : mS} {c : Int → Int} {tb : Int} (T : isT s tb c) (htb : tb = 0 ∨ tb = 1) (h7 : 0 ≤ s.1 7 ∧ s.1 7 ≤ 1000000) : ∃ s', ax_F (m + 9) 153 [ax_A (some 24), ax_I (Int32.ofInt tb)] (mH h s) = some (.inl (some (ax_I (Int32.ofInt (spRes c (s.2.2.1 15 tb.toNat))))), mH h s') ∧ ldF s s' tb ∧ s'.1 39 = 0 ∧ (spRes c (s.2.2.1 15 tb.toNat) < 0 → tbP s' c tb ∧ otF s s' tb ∧ s'.1 7 = s.1 7 ∧ tbM s' c tb) := by
  have zN := T.2.1
  have zN0 := T.1
  have hc := T.2.2.2.1
  have hv : ∀ q, 160 ≤ q → c q = 0 := fun q hq => hc q (by omega)
  rw [Model_readSchema_F]
  unfold Model_readSchema_b
  rw [zi_0, mpf_26, Option.bind_some, mgr_16, Option.bind_some, mst_16 _ _ _ _ (by omega) (by omega), Option.bind_some, mpf_39, Option.bind_some]
  obtain ⟨s1, e1, r1, r2, r3, r4, r5⟩ := Model_readSchema_l1 (m := m + 8) (h := h) (t := tb) (by omega) (by omega) 160 (mI (mU (mI s 26 0) 16 tb 0) 39 0) ax_fuel (by omega) (by unfold ax_fuel; omega)
  rw [show (160 : Int) - ((160 : Nat) : Int) = 0 by omega] at e1
  have i39 : s1.1 39 = 0 := by rw [r1]; rfl
  have i26 : s1.1 26 = 0 := by rw [r1]; rfl
  have ik : ∀ k, k ≠ 26 → k ≠ 39 → s1.1 k = s.1 k := fun k k1 k2 => by rw [r1, mI_1, if_neg k2, mU_1, mI_1, if_neg k1]
  have ak : ∀ k, k ≠ 16 → k ≠ 25 → s1.2.2.1 k = s.2.2.1 k := fun k k1 k2 => by
    funext i
    rw [r4 k i k2, mI_2, mU_3, if_neg (fun z => k1 z.1), mI_2]
  have a16 : s1.2.2.1 16 tb.toNat = 0 := by rw [r4 16 _ (by decide), mI_2, mU_3, if_pos ⟨rfl, rfl⟩]
  have a16o : ∀ i : Nat, i ≠ tb.toNat → s1.2.2.1 16 i = s.2.2.1 16 i := fun i hi => by rw [r4 16 i (by decide), mI_2, mU_3, if_neg (fun z => hi z.2), mI_2]
  have T1 : isT s1 tb c := isT_of T (ak 15 (by decide) (by decide)) (ak 14 (by decide) (by decide))
  have R0 : pr0 s1 c tb 0 0 0 := ⟨T1, htb, i26, by omega, a16, by omega, by omega, fun z => absurd z (by decide)⟩
  obtain ⟨I1, I2⟩ := simT_all (m := m) (h := h) (c := c) (tb := tb) 6 s1 0 0 0 0 0 R0 (by omega) (Or.inl (Int.le_refl _)) (by omega) i39 (by rw [ik 7 (by decide) (by decide)]; exact h7) (by omega) (by
    have := g_le c 5 (by decide) 0
    unfold gF
    split
    · show 0 + (34 : Int) ≤ 40; decide
    · show 0 + (34 : Int) ≤ 40; decide)
  have B := spTy_b hv 6 0 (by omega) (by omega)
  unfold bd at B
  have gl1 : ldF s s1 tb := ⟨fun k _ k2 _ _ _ _ k7 _ => ik k k2 k7, r3.trans (by rw [mI_2, mU_4, mI_2]), fun k _ k1 k2 k3 _ _ _ _ _ => ak k (by omega) (by omega)⟩
  have toLd : ∀ s2, glF s1 s2 → ldF s s2 tb := fun s2 g => ⟨fun k k1 k2 k3 k4 k5 k6 k7 k8 => (g.1 k k1 k2 k3 k4 k5 k6 k8).trans (ik k k2 k7), g.2.1.trans gl1.2.1, fun k k1 k2 k3 k4 k5 k6 k7 k8 k9 => (g.2.2 k k1 k2 k3 k4 k5 k6 k7 k8 k9).trans (gl1.2.2 k k1 k2 k3 k4 k5 k6 k7 k8 k9)⟩
  have run : ∀ k : Nat, k < 1000000 → ∃ f, ax_fuel = f + 1000 + k := fun k hk => ⟨999999999000 - k, by unfold ax_fuel; omega⟩
  have hlp : Model_readSchema_lp19 (ax_F (m + 8)) ax_fuel (some 24) (Int32.ofInt tb) (Int32.ofInt 0) (mH h (mI (mU (mI s 26 0) 16 tb 0) 39 0)) = rs m h tb ax_fuel 0 0 2 s1 := e1
  rw [hlp]
  unfold spRes
  by_cases z : 0 ≤ spTy c 6 0
  · rw [if_pos z]
    obtain ⟨k, S1, k1, k2, k3, k4, kX⟩ := I1 z
    clear I1 I2
    obtain ⟨f, hf⟩ := run k (by omega)
    have k3' := k3
    obtain ⟨t1, t26, t2, t3, t16, t16t, t5, t6, t19, t27, t28, t25, tN⟩ := k3
    rw [show 120 * tb + 0 = 120 * tb by omega] at t16t t5 t6 tN
    have z15 : S1.2.2.1 15 = s.2.2.1 15 := (t3 15 (by omega) (by decide) (by decide) (by decide) (by decide) (by decide) (by decide) (by decide)).trans (ak 15 (by decide) (by decide))
    have be := Model_beh_end (m := m + 7) (h := h) (s := S1) (tb := tb) (p := spTy c 6 0) htb (by omega) t26 (by rw [z15]; omega)
    rw [z15] at be
    have glb : glF S1 (mI (mI S1 38 1) 38 0) := (mI_gl S1 1).trans (mI_gl _ 0)
    refine ⟨mI (mI S1 38 1) 38 0, ?_, toLd _ (k3'.gl.trans glb), ?_, fun w => ?_⟩
    · rw [hf, k2, show f + 1000 = f + 998 + 1 + 1 by omega, rs_1 (by omega) (by omega) be]
      by_cases w : spTy c 6 0 = s.2.2.1 15 tb.toNat
      · rw [if_pos w, if_pos w]
        exact rs_0 (by omega) (by omega)
      · rw [if_neg w, if_neg w, rs_neg (by omega) (by omega), show -1 - (-1 - spTy c 6 0) = spTy c 6 0 by omega]
    · rw [mI_1, if_neg (by decide), mI_1, if_neg (by decide), t1 39 (by decide) (by decide) (by decide) (by decide) (by decide) (by decide)]; exact i39
    · have z6 : spN c 6 0 ≤ 120 := by
        have : gS c 6 0 ≤ 29 := by
          unfold gS
          split
          · show (29 : Int) ≤ 29; decide
          · show (29 : Int) ≤ 29; decide
        omega
      have g0 := grS_f (s := s1) (t := tb) (n := 120 * tb) (x := c 0) (y := 0) (o := 0) (by omega) (fun z => absurd z (by decide))
      obtain ⟨g1, g2, g3, g4, g5, g6, g7, g8, -⟩ := g0
      have lowk : ∀ k, 17 ≤ k → k ≤ 24 → ∀ i : Nat, (i : Int) < 120 * tb → (grS s1 tb (120 * tb) (c 0) 0 0).2.2.1 k i = s1.2.2.1 k i := fun k h1 h2 i hi => by
        by_cases j18 : k = 18
        · rw [j18, g6 i (by omega), if_neg (fun z => absurd z.1 (by decide))]
        · by_cases j19 : k = 19
          · rw [j19, g7 i (by omega), if_neg (fun z => absurd z.1 (by decide))]
          · by_cases j20 : k = 20
            · rw [j20, g8 i (by omega), if_neg (fun z => absurd z.1 (by decide))]
            · exact g5 k (by omega) i (by omega)
      refine ⟨⟨tN, by rw [mI_2, mI_2, t16t]; omega, z6⟩, ⟨fun i hi => ?_, fun k h1 h2 i hi => ?_, fun i hi => ?_⟩, ?_, fun p p0 p1 => ⟨fun w => (kX _).1 (by rw [show (((160 * tb + p).toNat : Nat) : Int) - 160 * tb = p by omega]; exact w), fun w => ((kX _).2 (by rw [show (((160 * tb + p).toNat : Nat) : Int) - 160 * tb = p by omega]; exact w)).trans (by rw [r5 _, if_pos (by omega)])⟩⟩
      · rw [mI_2, mI_2, t16 i hi]; exact a16o i hi
      · rw [mI_2, mI_2]
        rcases hi with hi | hi
        · rw [t5 k h1 h2 i hi, lowk k h1 h2 i hi, ak k (by omega) (by omega)]
        · rw [t6 k h1 h2 i (by omega), ak k (by omega) (by omega)]
      · rw [mI_2, mI_2, t25 i (by omega), r5 i, if_neg (by omega), mI_2, mU_ne _ _ _ _ _ (by decide), mI_2]
      · rw [mI_1, if_neg (by decide), mI_1, if_neg (by decide), t1 7 (by decide) (by decide) (by decide) (by decide) (by decide) (by decide)]; exact ik 7 (by decide) (by decide)
  · rw [if_neg z]
    obtain ⟨k, S1, k1, k2, k3⟩ := I2 (by omega)
    clear I1 I2
    obtain ⟨f, hf⟩ := run k (by omega)
    refine ⟨S1, by rw [hf, k2], toLd _ k3, ?_, fun w => absurd w (by omega)⟩
    rw [k3.1 39 (by decide) (by decide) (by decide) (by decide) (by decide) (by decide) (by decide)]; exact i39
