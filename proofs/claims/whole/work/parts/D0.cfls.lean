theorem spFd_e {c ty : Int → Int} {lt : Int → Int → Int} {k : Nat} {seen : List Int} {q E : Int} (q0 : 0 ≤ q) (hE : E = if c (q + 1) ≠ 58 then -1 - (q + 1) else if ty (q + 2) < 0 then ty (q + 2) else spFe c ty lt q) : spFd c ty lt (k + 1) seen q = if ¬ isSm (c q) ∨ c q ∈ seen then -1 - q else if E < 0 then E else if c E = 41 then E + 1 else if k = 0 ∨ c E ≠ 44 then -1 - E else spFd c ty lt k (c q :: seen) (E + 1) := by
  rw [spFd_s]
  by_cases a : ¬ isSm (c q) ∨ c q ∈ seen
  · rw [if_pos a, if_pos a]
  · rw [if_neg a, if_neg a]
    by_cases b : c (q + 1) ≠ 58
    · rw [if_pos b] at hE ⊢
      rw [if_pos (by omega), hE]
    · rw [if_neg b] at hE ⊢
      by_cases d : ty (q + 2) < 0
      · rw [if_pos d] at hE ⊢
        rw [if_pos (by omega), hE]
      · rw [if_neg d] at hE ⊢
        rw [hE]
theorem MkD_fr {s s' : cS} {N : Int} {c : Int → Int} {D : Nat} {x : Int} (hN : 0 ≤ N) (hc : ∀ p, N ≤ p → c p = 0) (x0 : 0 ≤ x) (hT : 0 ≤ spTy c D (x + 2)) (hF : 0 ≤ spFe c (spTy c D) (spVal c c false D) x) (f : ∀ i : Nat, (i : Int) < spFe c (spTy c D) (spVal c c false D) x → s'.2.1 i = s.2.1 i ∧ s'.2.2.2.1 i = s.2.2.2.1 i) (h : MkD s.2.1 s.2.2.2.1 c D x) : MkD s'.2.1 s'.2.2.2.1 c D x := fun z => by
  obtain ⟨d1, d2⟩ := h z
  rw [spFe_n z] at hF f
  have g2 := (spVal_gt' hc D (x + 2) _ (by omega) hF hN).1
  exact ⟨by rw [(f _ (by omega)).1]; exact d1, fun i i0 i1 => by rw [(f i i1).2]; exact d2 i i0 i1⟩
theorem Sr_flL {n : Nat} {g : ax_Hp} {K : Nat → Nat} {sr sc vr tr ti l : Nat} {c : Int → Int} {dep : Int} {D : Nat} (h : kOk K) (h78 : K 7 ≤ K 8) (h9 : K 9 = 0) (X : srX g K sr sc vr) (Y : vrX g K vr sc false) (V : cvX g K c) (S : csX g K sc tr ti l c) (R : rdT g K sr c (n + 1) D) (P : rdP g K vr c c false n D) (d0 : 0 ≤ dep) (d1 : dep + 1 + D = 6) : ∀ (k : Nat) (seen : List Int) (s : cS) (b : Int32) (fuel : Nat), seen.length + k = 6 → 0 ≤ s.1 → s.1 ≤ K 7 → frs s s.1 → s.2.2.2.2.1 = 0 → bst b 97 (fun y => y ∈ seen) → k < fuel →
    ∃ s', SchemaReader_readFields_lp30 (ax_F (n + 2)) fuel (some sr) (Int32.ofInt dep) b (Int32.ofInt (seen.length + 1)) (cH g K s) = some (.inl (some (ax_I (Int32.ofInt (if 0 ≤ spFd c (spTy c D) (spVal c c false D) k seen s.1 then 1 else 0)))), cH g K s') ∧ vEnd s' (spFd c (spTy c D) (spVal c c false D) k seen s.1) ∧ (0 ≤ spFd c (spTy c D) (spVal c c false D) k seen s.1 → s'.2.2.2.2 = s.2.2.2.2 ∧ mkF s s' s.1 (spFd c (spTy c D) (spVal c c false D) k seen s.1) ∧ nxC s'.2.2.1 (spFl c (spTy c D) (spVal c c false D) k s.1) ∧ ∀ x ∈ spFl c (spTy c D) (spVal c c false D) k s.1, s'.2.1 (x + 2).toNat = spTy c D (x + 2) ∧ mkBs s' c D (x + 2) ∧ MkD s'.2.1 s'.2.2.2.1 c D x) := by
  have k7 := h.2.1
  have hc := (V_lt V).1
  have vb := (V_lt V).2.2
  intro k
  induction k with
  | zero =>
    intro seen s b fuel hl q0 q1 fr z0 hb hf
    obtain ⟨fuel, rfl⟩ : ∃ g, fuel = g + 1 := ⟨fuel - 1, by omega⟩
    have hstep : SchemaReader_readFields_lp30 (ax_F (n + 2)) (fuel + 1) = SchemaReader_readFields_bd30 (ax_F (n + 2)) (SchemaReader_readFields_lp30 (ax_F (n + 2)) fuel) := rfl
    have eS : spFd c (spTy c D) (spVal c c false D) 0 seen s.1 = -1 - s.1 := rfl
    rw [eS, hstep]
    unfold SchemaReader_readFields_bd30
    rw [if_pos (show (6 : Int32) < Int32.ofInt (seen.length + 1) from by rw [show (6 : Int32) = Int32.ofInt 6 from rfl, zi_lt (by omega) (by omega) (by omega) (by omega)]; omega), if_neg (show ¬ 0 ≤ -1 - s.1 by omega)]
    exact ⟨s, za_rz (v := 0) (Or.inl rfl), vE_f rfl q0, fun z => absurd z (by omega)⟩
  | succ k ih =>
    intro seen s b fuel hl q0 q1 fr z0 hb hf
    obtain ⟨fuel, rfl⟩ : ∃ g, fuel = g + 1 := ⟨fuel - 1, by omega⟩
    have hstep : SchemaReader_readFields_lp30 (ax_F (n + 2)) (fuel + 1) = SchemaReader_readFields_bd30 (ax_F (n + 2)) (SchemaReader_readFields_lp30 (ax_F (n + 2)) fuel) := rfl
    have pb := pk_b V q0
    obtain ⟨E, hE⟩ : ∃ E, E = if c (s.1 + 1) ≠ 58 then -1 - (s.1 + 1) else if spTy c D (s.1 + 2) < 0 then spTy c D (s.1 + 2) else spFe c (spTy c D) (spVal c c false D) s.1 := ⟨_, rfl⟩
    rw [spFd_e q0 hE, spFl_s, hstep]
    unfold SchemaReader_readFields_bd30
    rw [if_neg (show ¬ (6 : Int32) < Int32.ofInt (seen.length + 1) from by rw [show (6 : Int32) = Int32.ofInt 6 from rfl, zi_lt (by omega) (by omega) (by omega) (by omega)]; omega), sr_gr0 X, Option.bind_some, cu_on, pl_ci Cu_at, sr_gr0 X, Option.bind_some, cu_on, pl_ci (Cu_pk h V q0 (by omega)), pl_ci (De_sbit pb.1 pb.2.1)]
    by_cases sm : isSm (c s.1)
    · have e := pb.2.2.1 (by omega)
      have q7 := pb.2.2.2.2.2 (by omega)
      rw [e, if_pos sm, if_neg (sbit_n0 (by omega) (by omega))]
      by_cases c1 : c s.1 ∈ seen
      · rw [if_pos (show ¬ isSm (c s.1) ∨ c s.1 ∈ seen from Or.inr c1), if_neg (fun z => (sbit_and hb (by omega) (by omega)).mp z c1), if_neg (show ¬ 0 ≤ -1 - s.1 by omega)]
        exact ⟨s, za_rz (v := 0) (Or.inl rfl), vE_f rfl q0, fun z => absurd z (by omega)⟩
      · rw [if_neg (show ¬ (¬ isSm (c s.1) ∨ c s.1 ∈ seen) from fun z => z.elim (fun w => w sm) c1), if_pos ((sbit_and hb (by omega) (by omega)).mpr c1), sr_gr0 X, Option.bind_some, cu_on, pl_cv (Cu_stepN h V q0 (by omega) (by omega)), sr_on X]
        obtain ⟨s1, a1, a2, a4⟩ := Sr_fbn (n := n) (s := cAt s (s.1 + 1)) (q := s.1) h h78 h9 X Y V S R P d0 d1 q0 rfl (by rw [cAt_1]; omega) (fun i hi => fr i (by omega)) z0 hE
        rw [pl_ci a1]
        by_cases cE : E < 0
        · rw [if_pos cE]
          simp only [if_neg (show ¬ 0 ≤ E by omega)]
          rw [if_pos (show Int32.ofInt 0 = 0 from rfl)]
          exact ⟨s1, za_rz (v := 0) (Or.inl rfl), a2, fun z => absurd z (by omega)⟩
        · rw [if_neg cE]
          simp only [if_pos (show 0 ≤ E by omega)]
          obtain ⟨a3, f1, f3, f4, f5⟩ := a4 (by omega)
          have f1' : mkF s s1 (s.1 + 1) E := f1
          have h58 : ¬ c (s.1 + 1) ≠ 58 := fun z => by rw [if_pos z] at hE; omega
          rw [if_neg h58] at hE
          have hT : ¬ spTy c D (s.1 + 2) < 0 := fun z => by rw [if_pos z] at hE; omega
          rw [if_neg hT] at hE
          have q8 := vb (s.1 + 1) (by omega)
          have eg := spFe_b (N := K 7) hc (fun q a b => spTy_b hc D q a b) (fun t q a b => spVal_b (c := c) (val := false) hc D t q a b) s.1 (by omega) (by omega) (by omega)
          rw [← hE] at eg
          unfold bd at eg
          rw [← hE]
          have sE : s1.1 = E := by unfold vEnd at a2; rw [if_pos (by omega)] at a2; exact a2
          have nx0 : s1.2.2.1 s.1.toNat = -1 := by rw [(f1' _ (by omega)).2.1]; exact (fr _ (by omega)).1
          rw [if_neg (show ¬ Int32.ofInt 1 = 0 from by decide), sr_gr0 X, Option.bind_some, cu_on, show (41 : Int32) = Int32.ofInt 41 from rfl, pl_ci (Cu_take h V (by omega) (by omega) (by decide) (by decide)), sE]
          by_cases c5 : c E = 41
          · simp only [if_pos c5]
            rw [if_neg (show ¬ Int32.ofInt 1 = 0 from by decide), if_neg (show ¬ c E = 44 by omega), if_pos (show 0 ≤ E + 1 by omega)]
            refine ⟨cAt s1 (E + 1), za_rz (v := 1) (Or.inr rfl), vE_p rfl (by omega), fun _ => ⟨a3, mkF_le f1' (by omega) (by omega), nx0, fun x hx => ?_⟩⟩
            rw [List.mem_singleton] at hx
            subst hx
            exact ⟨f3, f4, f5⟩
          · simp only [if_neg c5]
            rw [if_pos (show Int32.ofInt 0 = 0 from rfl)]
            by_cases c6 : k = 0
            · rw [if_pos (show Int32.ofInt (seen.length + 1) = 6 from by rw [show ((seen.length : Nat) : Int) + 1 = 6 by omega]; rfl), if_pos (show k = 0 ∨ c E ≠ 44 from Or.inl c6), if_neg (show ¬ 0 ≤ -1 - E by omega)]
              exact ⟨s1, za_rz (v := 0) (Or.inl rfl), vE_f sE (by omega), fun z => absurd z (by omega)⟩
            · rw [if_neg (show ¬ Int32.ofInt (seen.length + 1) = 6 from by rw [show (6 : Int32) = Int32.ofInt 6 from rfl, zi_eq (by omega) (by omega) (by omega) (by omega)]; omega), sr_gr0 X, Option.bind_some, cu_on, show (44 : Int32) = Int32.ofInt 44 from rfl, pl_ci (Cu_take h V (by omega) (by omega) (by decide) (by decide)), sE]
              by_cases c3 : c E = 44
              · simp only [if_pos c3]
                have E7 := vb E (by omega)
                have hlt : s.1 < (K 8 : Int) := by omega
                rw [if_neg (show ¬ Int32.ofInt 1 = 0 from by decide), if_neg (show ¬ (k = 0 ∨ c E ≠ 44) from by omega), sr_gr1 X, Option.bind_some, sr_gr0 X, Option.bind_some, cu_on, pl_ci Cu_at, sc_on S, cAt_1, pl_cv (Sc_markNext h S q0 (by omega)), if_pos hlt, show (1 : Int32) = Int32.ofInt 1 from rfl, zi_add]
                have fM : mkF s1 (cNx (cAt s1 (E + 1)) s.1 (E + 1)) s.1 (s.1 + 1) := fun i hi => ⟨rfl, by show (if i = s.1.toNat then _ else _) = _; rw [if_neg (by omega)]; rfl, rfl⟩
                have fM2 : mkF s (cNx (cAt s1 (E + 1)) s.1 (E + 1)) s.1 E := (mkF_le (a' := s.1) (b' := E) f1' (by omega) (by omega)).trans (mkF_le (a' := s.1) (b' := E) fM (by omega) (by omega)) (by omega) (by omega)
                have B := bst_of (Q := fun y => y ∈ c s.1 :: seen) (sbit_or hb (x := c s.1) (by omega) (by omega)) (fun y => List.mem_cons.symm)
                have := ih (c s.1 :: seen) (cNx (cAt s1 (E + 1)) s.1 (E + 1)) (b ||| sbit 97 (c s.1)) fuel (by rw [List.length_cons]; omega) (by rw [cNx_1, cAt_1]; omega) (by rw [cNx_1, cAt_1]; omega) (frs_of fr fM2 (Or.inr trivial) (by rw [cNx_1, cAt_1]; omega) (by rw [cNx_1, cAt_1]; omega)) (by show s1.2.2.2.2.1 = 0; rw [a3]; exact z0) B (by omega)
                rw [cNx_1, cAt_1, List.length_cons] at this
                obtain ⟨s', y1, y2, y4⟩ := this
                refine ⟨s', y1, y2, fun z => ?_⟩
                obtain ⟨w0, w1, w2, w3⟩ := y4 z
                have ge : E + 1 ≤ spFd c (spTy c D) (spVal c c false D) k (c s.1 :: seen) (E + 1) := by
                  have := spFd_b (N := K 7) hc (fun q a b => spTy_b hc D q a b) (fun t q a b => spVal_b (c := c) (val := false) hc D t q a b) k (c s.1 :: seen) (E + 1) (by omega) (by omega)
                  unfold bd at this
                  omega
                refine ⟨w0.trans a3, fM2.trans w1 (by omega) (by omega), ?_, fun x hx => ?_⟩
                · obtain ⟨k, rfl⟩ : ∃ j, k = j + 1 := ⟨k - 1, by omega⟩
                  rw [spFl_s] at w2 ⊢
                  refine ⟨?_, w2⟩
                  rw [(w1 s.1.toNat (by omega)).2.1]
                  show (if s.1.toNat = s.1.toNat then _ else _) = _
                  rw [if_pos rfl]
                · rcases List.mem_cons.mp hx with rfl | hx
                  · have tg := spTy_gt hc D (s.1 + 2) (by omega) (by omega)
                    have ge2 : spTy c D (s.1 + 2) ≤ E := by
                      by_cases w : c (spTy c D (s.1 + 2)) = 61
                      · have hv : E = spVal c c false D (s.1 + 2) (spTy c D (s.1 + 2) + 1) := by rw [hE, spFe_n w]
                        have := (spVal_gt' (c := c) (val := false) hc D (s.1 + 2) (spTy c D (s.1 + 2) + 1) (by omega) (by omega) (by omega)).1
                        omega
                      · have : E = spTy c D (s.1 + 2) := by rw [hE, spFe_o w]
                        omega
                    refine ⟨?_, ?_, ?_⟩
                    · rw [(w1 (s.1 + 2).toNat (by omega)).1]
                      exact f3
                    · have m1 : mkBs (cNx (cAt s1 (E + 1)) s.1 (E + 1)) c D (s.1 + 2) := mkBs_fr (N := K 7) (by omega) hc (by omega) (by omega) fM (by omega) f4
                      exact mkBs_fr (N := K 7) (by omega) hc (by omega) (by omega) w1 (by omega) m1
                    · exact MkD_fr (s := s1) (N := K 7) (by omega) hc q0 (by omega) (by rw [← hE]; omega) (fun i hi => by rw [← hE] at hi; have := w1 i (by omega); exact ⟨this.1, this.2.2⟩) f5
                  · exact w3 x hx
              · simp only [if_neg c3]
                rw [if_pos (show Int32.ofInt 0 = 0 from rfl), if_pos (show k = 0 ∨ c E ≠ 44 from Or.inr c3), if_neg (show ¬ 0 ≤ -1 - E by omega)]
                exact ⟨s1, za_rz (v := 0) (Or.inl rfl), vE_f sE (by omega), fun z => absurd z (by omega)⟩
    · rw [if_neg (show ¬ isSm (pk K c s.1) from fun z => sm (by rw [← pb.2.2.1 (fun y => by have := pb.2.2.2.1 y; omega)]; exact z)), if_pos rfl, if_pos (show ¬ isSm (c s.1) ∨ c s.1 ∈ seen from Or.inl sm), if_neg (show ¬ 0 ≤ -1 - s.1 by omega)]
      exact ⟨s, za_rz (v := 0) (Or.inl rfl), vE_f rfl q0, fun z => absurd z (by omega)⟩
