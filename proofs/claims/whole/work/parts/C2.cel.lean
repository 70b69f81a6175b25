theorem Vr_elL {n : Nat} {g : ax_Hp} {K : Nat → Nat} {vr sc tr ti l : Nat} {c v : Int → Int} {val : Bool} {s0 : cS} {t dep q : Int} {D : Nat} (h : kOk K) (X : vrX g K vr sc val) (V : cvX g K v) (S : csX g K sc tr ti l c) (R : rdP g K vr c v val (n + 1) D) (d0 : 0 ≤ dep) (d1 : dep + 1 + D ≤ 6) (t0 : 0 ≤ t) (hT : 0 ≤ spTy c D (t + 1)) (hM : MkN s0.2.2.1 c D (t + 1)) (q0 : 0 ≤ q) (r0 : bRm K s0 0) : ∀ (k : Nat) (s : cS) (cnt : Nat) (L0 U0 : List Int) (fuel : Nat), 1 ≤ cnt → cnt + k = mst val + 1 → q ≤ s.1 → s.1 ≤ K 7 → enE val s s0 → s.2.2.1 = s0.2.2.1 → bsE K s0 s (0 :: L0) → unE s0 s U0 → (L0.length : Int) + 1 ≤ s.1 - q → bRm K s (161 - s.1) → k < fuel →
    ∃ s', ValueReader_readElements_lp63 (ax_F (n + 1)) fuel (some vr) (Int32.ofInt t) (Int32.ofInt dep) (Int32.ofInt s0.2.2.2.2.1) (Int32.ofInt (mst val)) (Int32.ofInt cnt) (cH g K s) = some (.inl (some (ax_I (Int32.ofInt (if 0 ≤ spEl v (spVal c v val D (t + 1)) k s.1 then 1 else 0)))), cH g K s') ∧ vEnd s' (spEl v (spVal c v val D (t + 1)) k s.1) ∧ enE val s' s0 ∧ s'.2.2.1 = s0.2.2.1 ∧ (0 ≤ spEl v (spVal c v val D (t + 1)) k s.1 → bsE K s0 s' ((2 * ((cnt : Int) - 1 + spElN v (spVal c v val D (t + 1)) k s.1)) :: (L0 ++ (spElO 1 v (spVal c v val D (t + 1)) (spO 1 c v val D (t + 1)) k s.1 ++ [0]))) ∧ unE s0 s' (U0 ++ spElA v (spVal c v val D (t + 1)) (spU c v val D (t + 1)) k s.1) ∧ ((L0 ++ (spElO 1 v (spVal c v val D (t + 1)) (spO 1 c v val D (t + 1)) k s.1 ++ [0])).length : Int) + 1 ≤ spEl v (spVal c v val D (t + 1)) k s.1 - q) := by
  have k7 := h.2.1
  have tl := (spTy_gt (S_lt S).2.1 D (t + 1) (by omega) hT).2
  have l1 := (S_lt S).1
  have hm : mst val ≤ 20 := by unfold mst; split <;> omega
  have flt : ∀ s : cS, 0 ≤ s.1 → vEnd s (-1 - s.1) := fun s q0 => by unfold vEnd; rw [if_neg (show ¬ 0 ≤ -1 - s.1 by omega)]; omega
  intro k
  induction k with
  | zero =>
    intro s cnt L0 U0 fuel c0 hk hq hq7 e1 e2 B U hl r hf
    obtain ⟨fuel, rfl⟩ : ∃ g, fuel = g + 1 := ⟨fuel - 1, by omega⟩
    have hstep : ValueReader_readElements_lp63 (ax_F (n + 1)) (fuel + 1) = ValueReader_readElements_bd63 (ax_F (n + 1)) (ValueReader_readElements_lp63 (ax_F (n + 1)) fuel) := rfl
    have eS : spEl v (spVal c v val D (t + 1)) 0 s.1 = -1 - s.1 := rfl
    rw [eS, hstep]
    unfold ValueReader_readElements_bd63
    rw [if_pos (show Int32.ofInt (mst val) < Int32.ofInt cnt from by rw [zi_lt (by omega) (by omega) (by omega) (by omega)]; omega), if_neg (show ¬ 0 ≤ -1 - s.1 by omega)]
    exact ⟨s, za_rz (v := 0) (Or.inl rfl), flt s (by omega), e1, e2, fun z => absurd z (by omega)⟩
  | succ k ih =>
    intro s cnt L0 U0 fuel c0 hk hq hq7 e1 e2 B U hl r hf
    obtain ⟨fuel, rfl⟩ : ∃ g, fuel = g + 1 := ⟨fuel - 1, by omega⟩
    have hstep : ValueReader_readElements_lp63 (ax_F (n + 1)) (fuel + 1) = ValueReader_readElements_bd63 (ax_F (n + 1)) (ValueReader_readElements_lp63 (ax_F (n + 1)) fuel) := rfl
    obtain ⟨s1, a1, a2, a3, a4, a5⟩ := R s (t + 1) (dep + 1) (by omega) (by omega) (by omega) hT (by rw [e2]; exact hM) (by omega) hq7 r
    have ev := fun z => spVal_gt (c := c) (val := val) (V_lt V).1 D (t + 1) s.1 (by omega) hq7 z
    rw [spEl_s, spElN_s, spElO_s, spElA_s, hstep]
    unfold ValueReader_readElements_bd63
    rw [if_neg (show ¬ Int32.ofInt (mst val) < Int32.ofInt cnt from by rw [zi_lt (by omega) (by omega) (by omega) (by omega)]; omega), vr_gr1 X, Option.bind_some, sc_on S, pl_ci Sc_el, vr_on X, show (1 : Int32) = Int32.ofInt 1 from rfl, zi_add, pl_ci a1]
    generalize hE : spVal c v val D (t + 1) s.1 = E at *
    generalize spO 1 c v val D (t + 1) s.1 = Lo at *
    generalize spU c v val D (t + 1) s.1 = Uo at *
    by_cases cE : E < 0
    · rw [if_pos cE]
      simp only [if_neg (show ¬ 0 ≤ E by omega)]
      rw [if_pos (show Int32.ofInt 0 = 0 from rfl)]
      exact ⟨s1, za_rz (v := 0) (Or.inl rfl), a2, a3.trans e1, a4.trans e2, fun z => absurd z (by omega)⟩
    · rw [if_neg cE]
      simp only [if_pos (show 0 ≤ E by omega)]
      obtain ⟨b1, b2, b3⟩ := a5 (by omega)
      obtain ⟨g1, g2⟩ := ev (by omega)
      have sE : s1.1 = E := by unfold vEnd at a2; rw [if_pos (by omega)] at a2; exact a2
      have r1 : bRm K s1 (161 - E) := bRm_le (bsE_rm b1 r) (by omega)
      have B1 := B.trans r0.1 b1
      have U1 := U.trans b2
      rw [List.cons_append] at B1
      rw [if_neg (show ¬ Int32.ofInt 1 = 0 from by decide), vr_gr0 X, Option.bind_some, cu_on, show (93 : Int32) = Int32.ofInt 93 from rfl, pl_ci (Cu_take h V (by omega) (by omega) (by decide) (by decide)), sE]
      have vb := (V_lt V).2.2 E
      by_cases c1 : v E = 93
      · simp only [if_pos c1]
        have E7 := vb (by omega)
        rw [if_neg (show ¬ Int32.ofInt 1 = 0 from by decide), vr_gr2 X, Option.bind_some, ro_on h]
        obtain ⟨s2, f1, f2, f3, f4, f5, f6⟩ := Ro_setE (m := n) (g := g) (s0 := s0) (s := cAt s1 (E + 1)) (y := 2 * (cnt : Int)) h r0 (bRm_le r1 (by omega)) B1
        rw [show (2 : Int32) = Int32.ofInt 2 from rfl, zi_mul, pl_cv f1, vr_gr2 X, Option.bind_some, ro_on h, zi_0]
        obtain ⟨s3, y, x1, x2, x3, x4⟩ := Ro_addE (m := n) (g := g) (s := s2) (x := 0) h ⟨f5.1, f5.2.1, fun w => by have := r1.2.2 w; have : s2.2.2.2.2.1 = s1.2.2.2.2.1 := f6; omega⟩
        rw [pl_ci x1]
        have B2 := f4.trans r0.1 x4
        refine ⟨s3, ?_, ?_, ?_, ?_, fun _ => ⟨?_, ?_, ?_⟩⟩
        · rw [if_pos (show 0 ≤ E + 1 by omega)]
          exact za_rz (v := 1) (Or.inr rfl)
        · unfold vEnd; rw [if_pos (show 0 ≤ E + 1 by omega), x2, f2]; rfl
        · exact (enE_r (x3.1.trans f3.1) (x3.2.2.trans f3.2.2)).trans (a3.trans e1)
        · rw [x3.2.1, f3.2.1]; exact a4.trans e2
        · rw [List.append_nil, show (2 : Int) * ((cnt : Int) - 1 + ((1 + 0 : Nat) : Int)) = 2 * (cnt : Int) by omega, ← List.append_assoc]
          rw [List.cons_append] at B2
          exact B2
        · rw [List.append_nil]
          intro i
          rw [x3.2.2, f3.2.2]
          exact U1 i
        · rw [List.append_nil]
          simp only [List.length_append, List.length_singleton]
          omega
      · simp only [if_neg c1]
        rw [if_pos (show Int32.ofInt 0 = 0 from rfl)]
        have flt1 : ∀ H : k = 0 ∨ v E ≠ 44, ∃ s', ax_rz 0 (cH g K s1) = some (.inl (some (ax_I (Int32.ofInt (if 0 ≤ -1 - E then 1 else 0)))), cH g K s') ∧ vEnd s' (-1 - E) ∧ enE val s' s0 ∧ s'.2.2.1 = s0.2.2.1 := fun _ => by
          rw [if_neg (show ¬ 0 ≤ -1 - E by omega)]
          exact ⟨s1, za_rz (v := 0) (Or.inl rfl), by rw [← sE]; exact flt s1 (by omega), a3.trans e1, a4.trans e2⟩
        by_cases c2 : k = 0
        · rw [if_pos (show Int32.ofInt cnt = Int32.ofInt (mst val) from by rw [show (cnt : Int) = mst val by omega]), if_pos (show k = 0 ∨ v E ≠ 44 from Or.inl c2)]
          obtain ⟨s', y1, y2, y3, y4⟩ := flt1 (Or.inl c2)
          exact ⟨s', y1, y2, y3, y4, fun z => absurd z (by omega)⟩
        · rw [if_neg (show ¬ Int32.ofInt cnt = Int32.ofInt (mst val) from by rw [zi_eq (by omega) (by omega) (by omega) (by omega)]; omega), vr_gr0 X, Option.bind_some, cu_on, show (44 : Int32) = Int32.ofInt 44 from rfl, pl_ci (Cu_take h V (by omega) (by omega) (by decide) (by decide)), sE]
          by_cases c3 : v E = 44
          · rw [if_neg (show ¬ (k = 0 ∨ v E ≠ 44) from by omega)]
            simp only [if_pos c3]
            have E7 := vb (by omega)
            rw [if_neg (show ¬ Int32.ofInt 1 = 0 from by decide), zi_add, if_neg (show ¬ (1 : Int) = 2 by omega)]
            have := ih (cAt s1 (E + 1)) (cnt + 1) (L0 ++ Lo) (U0 ++ Uo) fuel (by omega) (by omega) (by show q ≤ E + 1; omega) (by show E + 1 ≤ _; omega) (a3.trans e1) (a4.trans e2) B1 U1 (by rw [List.length_append]; show _ ≤ E + 1 - q; omega) (bRm_le r1 (by show 161 - (E + 1) ≤ _; omega)) (by omega)
            rw [cAt_1] at this
            obtain ⟨s', y1, y2, y3, y4, y5⟩ := this
            refine ⟨s', y1, y2, y3, y4, fun z => ?_⟩
            obtain ⟨z1, z2, z3⟩ := y5 z
            rw [List.nil_append, show (cnt : Int) - 1 + ((1 + spElN v (spVal c v val D (t + 1)) k (E + 1) : Nat) : Int) = ((cnt + 1 : Nat) : Int) - 1 + (spElN v (spVal c v val D (t + 1)) k (E + 1) : Int) by omega]
            refine ⟨?_, ?_, ?_⟩
            · rw [List.append_assoc] at z1
              rw [List.append_assoc]
              exact z1
            · rw [List.append_assoc] at z2
              exact z2
            · rw [List.append_assoc] at z3
              rw [List.append_assoc]
              exact z3
          · rw [if_pos (show k = 0 ∨ v E ≠ 44 from Or.inr c3)]
            simp only [if_neg c3]
            rw [if_pos (show Int32.ofInt 0 = 0 from rfl)]
            obtain ⟨s', y1, y2, y3, y4⟩ := flt1 (Or.inr c3)
            exact ⟨s', y1, y2, y3, y4, fun z => absurd z (by omega)⟩
theorem Vr_el {n : Nat} {g : ax_Hp} {K : Nat → Nat} {vr sc tr ti l : Nat} {c v : Int → Int} {val : Bool} {s : cS} {t dep : Int} {D : Nat} (h : kOk K) (X : vrX g K vr sc val) (V : cvX g K v) (S : csX g K sc tr ti l c) (R : rdP g K vr c v val (n + 1) D) (d0 : 0 ≤ dep) (d1 : dep + 1 + D ≤ 6) (t0 : 0 ≤ t) (hA : c t = 65) (hT : 0 ≤ spTy c (D + 1) t) (hM : MkN s.2.2.1 c (D + 1) t) (q0 : 0 ≤ s.1) (q1 : s.1 ≤ K 7) (r : bRm K s (161 - s.1)) : ∃ s', ax_F (n + 2) 56 [ax_A (some vr), ax_I (Int32.ofInt t), ax_I (Int32.ofInt dep)] (cH g K s) = some (.inl (some (ax_I (Int32.ofInt (if 0 ≤ spVal c v val (D + 1) t s.1 then 1 else 0)))), cH g K s') ∧ vPost K val s s' (spVal c v val (D + 1) t s.1) (spO 1 c v val (D + 1) t s.1) (spU c v val (D + 1) t s.1) := by
  have k7 := h.2.1
  have hT' : 0 ≤ spTy c D (t + 1) := by rw [← spTy_A hA]; exact hT
  have hM' := hM.1 hA
  have hm : mst val = if val then 20 else 3 := rfl
  have eV : spVal c v val (D + 1) t s.1 = if v s.1 = 91 then (if v (s.1 + 1) = 93 then s.1 + 2 else spEl v (spVal c v val D (t + 1)) (mst val) (s.1 + 1)) else -1 - s.1 := by
    rw [spVal_s]; unfold spV1; rw [if_pos hA]; rfl
  have eO : spO 1 c v val (D + 1) t s.1 = if v (s.1 + 1) = 93 then [0] else [2 * (spElN v (spVal c v val D (t + 1)) (mst val) (s.1 + 1) : Int)] ++ (spElO 1 v (spVal c v val D (t + 1)) (spO 1 c v val D (t + 1)) (mst val) (s.1 + 1) ++ [0]) := by
    rw [spO_s]; unfold spO1; rw [if_pos hA]; rfl
  have eU : spU c v val (D + 1) t s.1 = if v (s.1 + 1) = 93 then [] else spElA v (spVal c v val D (t + 1)) (spU c v val D (t + 1)) (mst val) (s.1 + 1) := by
    rw [spU_s]; unfold spU1; rw [if_pos hA]
  rw [eV, eO, eU, ValueReader_readElements_F]
  unfold ValueReader_readElements_b
  rw [vr_gr0 X, Option.bind_some, cu_on, show (91 : Int32) = Int32.ofInt 91 from rfl, pl_ci (Cu_take h V q0 (by omega) (by decide) (by decide))]
  have vb := (V_lt V).2.2
  by_cases c1 : v s.1 = 91
  · have q7 := vb s.1 (by omega)
    rw [if_pos c1]
    simp only [if_pos c1]
    rw [if_neg (show ¬ Int32.ofInt 1 = 0 from by decide), vr_gr2 X, Option.bind_some, ro_on h, pl_ci (Ro_size h), vr_gr2 X, Option.bind_some, ro_on h, zi_0]
    obtain ⟨s1, y, a1, a2, a3, a4⟩ := Ro_addE (m := n) (g := g) (s := cAt s (s.1 + 1)) (x := 0) h (bRm_le (n := 161 - s.1) r (by omega))
    have r1 : bRm K s1 (161 - s.1 - ((1 : Nat) : Int)) := bsE_rm (n := 161 - s.1) a4 r
    rw [cAt_1] at a2
    rw [pl_ci a1, vr_gr0 X, Option.bind_some, cu_on, show (93 : Int32) = Int32.ofInt 93 from rfl, pl_ci (Cu_take h V (by omega) (by omega) (by decide) (by decide)), a2]
    by_cases c2 : v (s.1 + 1) = 93
    · rw [if_pos c2, if_pos c2, if_pos c2]
      simp only [if_pos c2]
      rw [if_neg (show ¬ Int32.ofInt 1 = Int32.ofInt 0 from by decide), if_pos (show 0 ≤ s.1 + 2 by omega)]
      refine ⟨_, za_rz (v := 1) (Or.inr rfl), ?_, enE_r a3.1 a3.2.2, a3.2.1, fun _ => ⟨a4, unE_0 a3.2.2, by show ((1 : Nat) : Int) ≤ _; omega⟩⟩
      unfold vEnd; rw [if_pos (show 0 ≤ s.1 + 2 by omega), cAt_1]; omega
    · rw [if_neg c2, if_neg c2, if_neg c2]
      simp only [if_neg c2]
      rw [if_pos trivial, vr_gi3 X, Option.bind_some]
      have L := Vr_elL (n := n) (s0 := s) (q := s.1) h X V S R d0 d1 t0 hT' hM' q0 (bRm_le r (by omega)) (mst val) s1 1 [] [] ax_fuel (by omega) (by omega) (by omega) (by omega) (enE_r a3.1 a3.2.2) a3.2.1 a4 (unE_0 a3.2.2) (by rw [a2]; show ((0 : Nat) : Int) + 1 ≤ _; omega) (bRm_le r1 (by omega)) (by unfold ax_fuel mst; split <;> omega)
      rw [a2] at L
      obtain ⟨s', y1, y2, y3, y4, y5⟩ := L
      refine ⟨s', ?_, y2, y3, y4, fun z => ?_⟩
      · cases val with
        | true => rw [if_pos (show Int32.ofInt (if true = true then 0 else 1) = Int32.ofInt 0 from rfl)]; exact y1
        | false => rw [if_neg (show ¬ Int32.ofInt (if false = true then 0 else 1) = Int32.ofInt 0 from by decide)]; exact y1
      · obtain ⟨z1, z2, z3⟩ := y5 z
        rw [List.nil_append] at z1 z2 z3
        rw [show ((1 : Nat) : Int) - 1 + (spElN v (spVal c v val D (t + 1)) (mst val) (s.1 + 1) : Int) = (spElN v (spVal c v val D (t + 1)) (mst val) (s.1 + 1) : Int) by omega] at z1
        refine ⟨z1, z2, ?_⟩
        rw [List.singleton_append, List.length_cons]
        omega
  · rw [if_neg c1]
    simp only [if_neg c1]
    rw [if_pos (show Int32.ofInt 0 = 0 from rfl), if_neg (show ¬ 0 ≤ -1 - s.1 by omega)]
    refine ⟨s, za_rz (v := 0) (Or.inl rfl), ?_, enE_r rfl rfl, rfl, fun z => absurd z (by omega)⟩
    unfold vEnd; rw [if_neg (show ¬ 0 ≤ -1 - s.1 by omega)]; omega
