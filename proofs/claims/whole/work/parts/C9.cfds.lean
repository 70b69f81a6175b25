theorem Sr_fbn {n : Nat} {g : ax_Hp} {K : Nat → Nat} {sr sc vr tr ti l : Nat} {c : Int → Int} {s : cS} {dep q e : Int} {D : Nat} (h : kOk K) (h78 : K 7 ≤ K 8) (h9 : K 9 = 0) (X : srX g K sr sc vr) (Y : vrX g K vr sc false) (V : cvX g K c) (S : csX g K sc tr ti l c) (R : rdT g K sr c (n + 1) D) (P : rdP g K vr c c false n D) (d0 : 0 ≤ dep) (d1 : dep + 1 + D = 6) (q0 : 0 ≤ q) (hs : s.1 = q + 1) (q1 : s.1 ≤ K 7) (fr : frs s (q + 1)) (z0 : s.2.2.2.2.1 = 0) (he : e = if c (q + 1) ≠ 58 then -1 - (q + 1) else if spTy c D (q + 2) < 0 then spTy c D (q + 2) else spFe c (spTy c D) (spVal c c false D) q) :
    ∃ s', ax_F (n + 2) 41 [ax_A (some sr), ax_I (Int32.ofInt dep)] (cH g K s) = some (.inl (some (ax_I (Int32.ofInt (if 0 ≤ e then 1 else 0)))), cH g K s') ∧ vEnd s' e ∧ (0 ≤ e → s'.2.2.2.2 = s.2.2.2.2 ∧ mkF s s' (q + 1) e ∧ s'.2.1 (q + 2).toNat = spTy c D (q + 2) ∧ mkBs s' c D (q + 2) ∧ MkD s'.2.1 s'.2.2.2.1 c D q) := by
  have k7 := h.2.1
  have hc := (V_lt V).1
  have vb := (V_lt V).2.2
  rw [SchemaReader_readFieldBehindName_F]
  unfold SchemaReader_readFieldBehindName_b
  rw [sr_gr0 X, Option.bind_some, cu_on, show (58 : Int32) = Int32.ofInt 58 from rfl, pl_ci (Cu_take h V (by omega) (by omega) (by decide) (by decide)), hs]
  by_cases c1 : c (q + 1) = 58
  · rw [if_neg (show ¬ c (q + 1) ≠ 58 from fun z => z c1)] at he
    simp only [if_pos c1]
    have q7 := vb (q + 1) (by omega)
    obtain ⟨s1, a1, a2, a4⟩ := R (cAt s (q + 1 + 1)) (dep + 1) (by omega) (by omega) (by rw [cAt_1]; omega) (by rw [cAt_1]; omega) (fun i hi => fr i (by rw [cAt_1] at hi; omega)) z0
    rw [cAt_1, show q + 1 + 1 = q + 2 by omega] at a1 a2 a4
    rw [if_neg (show ¬ Int32.ofInt 1 = 0 from by decide), sr_gr0 X, Option.bind_some, cu_on, pl_ci Cu_at, sr_on X, show (1 : Int32) = Int32.ofInt 1 from rfl, zi_add, show q + 1 + 1 = q + 2 by omega, pl_ci a1, cAt_1]
    have eb := spTy_b hc D (q + 2) (by omega) (by omega)
    unfold bd at eb
    unfold MkD
    by_cases cE : spTy c D (q + 2) < 0
    · rw [if_pos cE] at he
      rw [he]
      simp only [if_neg (show ¬ 0 ≤ spTy c D (q + 2) by omega)]
      rw [if_pos (show Int32.ofInt 0 = 0 from rfl)]
      exact ⟨s1, za_rz (v := 0) (Or.inl rfl), a2, fun z => absurd z (by omega)⟩
    · rw [if_neg cE] at he
      simp only [if_pos (show 0 ≤ spTy c D (q + 2) by omega)]
      obtain ⟨a3, f1, f2, f3, f4⟩ := a4 (by omega)
      unfold spFe at he
      have sE : s1.1 = spTy c D (q + 2) := by unfold vEnd at a2; rw [if_pos (by omega)] at a2; exact a2
      have hT : 0 ≤ spTy c D (q + 2) := by omega
      rw [if_neg (show ¬ Int32.ofInt 1 = 0 from by decide), sr_gr0 X, Option.bind_some, cu_on, show (61 : Int32) = Int32.ofInt 61 from rfl, pl_ci (Cu_take h V (by omega) (by omega) (by decide) (by decide)), sE]
      have f1' : mkF s s1 (q + 1) (spTy c D (q + 2)) := fun i hi => f1 i (by omega)
      generalize hE : spTy c D (q + 2) = E at *
      by_cases c2 : c E = 61
      · rw [if_pos c2] at he
        simp only [if_pos c2]
        have E7 := vb E (by omega)
        obtain ⟨s2, b1, b2, b3, b4, b5⟩ := P (cAt s1 (E + 1)) (q + 2) 0 (by omega) (by omega) (by omega) (by omega) (MkB_N D _ f4) (by rw [cAt_1]; omega) (by rw [cAt_1]; omega) ⟨by show 0 ≤ s1.2.2.2.2.1; rw [a3]; show 0 ≤ s.2.2.2.2.1; omega, fun _ => by show s1.2.2.2.2.1 = 0; rw [a3]; exact z0, fun w => absurd h9 w⟩
        have e42 : ax_F (n + 1) 42 [ax_A (some vr), ax_I (Int32.ofInt (q + 2))] (cH g K (cAt s1 (E + 1))) = some (.inl (some (ax_I (Int32.ofInt (if 0 ≤ e then 1 else 0)))), cH g K s2) := by
          rw [ValueReader_readLiteral_F]
          unfold ValueReader_readLiteral_b
          rw [vr_on Y, zi_0, pl_ci b1, cAt_1, ← he]
          exact za_rz rz_b
        rw [cAt_1, ← he] at b2 b5
        rw [if_neg (show ¬ Int32.ofInt 1 = 0 from by decide), sr_gr0 X, Option.bind_some, cu_on, pl_ci Cu_at, sr_gr2 X, Option.bind_some, vr_on Y, pl_ci e42, cAt_1]
        by_cases c3 : 0 ≤ e
        · simp only [if_pos c3]
          have ge := spVal_gt (c := c) (val := false) hc D (q + 2) (E + 1) (by omega) (by omega) (by rw [← he]; exact c3)
          rw [← he] at ge
          obtain ⟨w1, w2, w3⟩ := b5 c3
          have s2e : s2.1 = e := by unfold vEnd at b2; rw [if_pos c3] at b2; exact b2
          rw [if_neg (show ¬ Int32.ofInt 1 = 0 from by decide), sr_gr1 X, Option.bind_some, sr_gr0 X, Option.bind_some, cu_on, pl_ci Cu_at, sc_on S, s2e, pl_cv (Sc_markEnd h S (by omega) (by omega)), if_pos (by omega)]
          have un2 : ∀ i : Nat, s2.2.2.2.1 i = if (i : Int) ∈ spU c c false D (q + 2) (E + 1) then 1 else s1.2.2.2.1 i := w2
          have uin : ∀ y ∈ spU c c false D (q + 2) (E + 1), E + 1 ≤ y ∧ y < e := by rw [he]; exact fun y hy => spU_in hc D (q + 2) (E + 1) (by omega) (by omega) (by rw [← he]; exact c3) y hy
          have fr1 : ∀ i : Nat, E ≤ i → s1.2.2.2.1 i = 0 := fun i hi => by rw [(f1' i (by omega)).2.2]; exact (fr i (by omega)).2
          have fM : mkF s1 (cEn s2 (E + 1) e) (E + 1) e := fun i hi => by
            refine ⟨?_, ?_, ?_⟩
            · show (if i = (E + 1).toNat then e else s2.2.1 i) = _
              rw [if_neg (by omega), b3.1]; rfl
            · show s2.2.2.1 i = _
              rw [b4]; rfl
            · show s2.2.2.2.1 i = _
              rw [un2 i, if_neg (fun z => by have := uin _ z; omega)]
          refine ⟨cEn s2 (E + 1) e, za_rz (v := 1) (Or.inr rfl), vE_p s2e c3, fun _ => ⟨?_, ?_, ?_, ?_, fun _ => ⟨?_, ?_⟩⟩⟩
          · show s2.2.2.2.2 = _
            rw [w1.1 h9]; exact a3
          · exact f1'.trans fM (by omega) (by omega)
          · rw [(fM (q + 2).toNat (by omega)).1]; exact f3
          · exact mkBs_fr (N := K 7) (by omega) hc (by omega) (by omega) fM (by omega) f4
          · show (if (E + 1).toNat = (E + 1).toNat then e else _) = _
            rw [if_pos rfl, he]
          · intro i i0 i1
            show s2.2.2.2.1 i = _
            rw [un2 i, fr1 i (by omega)]
        · simp only [if_neg c3]
          rw [if_pos (show Int32.ofInt 0 = 0 from rfl)]
          exact ⟨s2, za_rz (v := 0) (Or.inl rfl), b2, fun z => absurd z c3⟩
      · rw [if_neg c2] at he
        simp only [if_neg c2]
        rw [if_pos (show Int32.ofInt 0 = 0 from rfl), he, if_pos (show 0 ≤ E by omega)]
        exact ⟨s1, za_rz (v := 1) (Or.inr rfl), vE_p sE (by omega), fun _ => ⟨a3, f1', f3, f4, fun z => absurd z c2⟩⟩
  · rw [if_pos c1] at he
    simp only [if_neg c1]
    rw [if_pos (show Int32.ofInt 0 = 0 from rfl), he, if_neg (show ¬ 0 ≤ -1 - (q + 1) by omega)]
    exact ⟨s, za_rz (v := 0) (Or.inl rfl), vE_f hs (by omega), fun z => absurd z (by omega)⟩
