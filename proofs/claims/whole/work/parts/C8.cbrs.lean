def tPost (c : Int → Int) (D : Nat) (s s' : cS) (e : Int) : Prop := vEnd s' e ∧ (0 ≤ e → s'.2.2.2.2 = s.2.2.2.2 ∧ mkF s s' s.1 e ∧ s'.2.2.1 s.1.toNat = s.2.2.1 s.1.toNat ∧ s'.2.1 s.1.toNat = e ∧ mkBs s' c D s.1)
/-- a type of level D is read as the text says -/
def rdT (g : ax_Hp) (K : Nat → Nat) (sr : Nat) (c : Int → Int) (n D : Nat) : Prop := ∀ (s : cS) (dep : Int), 0 ≤ dep → dep + D = 6 → 0 ≤ s.1 → s.1 ≤ K 7 → frs s s.1 → s.2.2.2.2.1 = 0 → ∃ s', ax_F n 26 [ax_A (some sr), ax_I (Int32.ofInt dep)] (cH g K s) = some (.inl (some (ax_I (Int32.ofInt (if 0 ≤ spTy c D s.1 then 1 else 0)))), cH g K s') ∧ tPost c D s s' (spTy c D s.1)
theorem cNx_1 (s : cS) (i v : Int) : (cNx s i v).1 = s.1 := rfl
theorem spTy_cap {c : Int → Int} {D : Nat} {q : Int} (q0 : 0 ≤ q) (h : ¬ isCa (c q)) : spTy c D q = -1 - q := spTy_no (fun z => by omega) (Or.inr (fun z => by omega))
theorem Sr_brL {n : Nat} {g : ax_Hp} {K : Nat → Nat} {sr sc vr tr ti l : Nat} {c : Int → Int} {dep : Int} {D : Nat} (h : kOk K) (h78 : K 7 ≤ K 8) (X : srX g K sr sc vr) (V : cvX g K c) (S : csX g K sc tr ti l c) (R : rdT g K sr c (n + 1) D) (d0 : 0 ≤ dep) (d1 : dep + 1 + D = 6) : ∀ (k : Nat) (seen : List Int) (s : cS) (b : Int32) (fuel : Nat), seen.length + k = 4 → 0 ≤ s.1 → s.1 ≤ K 7 → frs s s.1 → s.2.2.2.2.1 = 0 → bst b 65 (fun y => y = 85 ∨ y ∈ seen) → k < fuel →
    ∃ s', SchemaReader_readBranches_lp34 (ax_F (n + 1)) fuel (some sr) (Int32.ofInt dep) b (Int32.ofInt (seen.length + 1)) (cH g K s) = some (.inl (some (ax_I (Int32.ofInt (if 0 ≤ spBr c (spTy c D) k seen s.1 then 1 else 0)))), cH g K s') ∧ vEnd s' (spBr c (spTy c D) k seen s.1) ∧ (0 ≤ spBr c (spTy c D) k seen s.1 → s'.2.2.2.2 = s.2.2.2.2 ∧ mkF s s' s.1 (spBr c (spTy c D) k seen s.1) ∧ nxC s'.2.2.1 (spBl c (spTy c D) k s.1) ∧ ∀ x ∈ spBl c (spTy c D) k s.1, s'.2.1 x.toNat = spTy c D x ∧ mkBs s' c D x) := by
  have k7 := h.2.1
  have hc := (V_lt V).1
  have vb := (V_lt V).2.2
  intro k
  induction k with
  | zero =>
    intro seen s b fuel hl q0 q1 fr z0 hb hf
    obtain ⟨fuel, rfl⟩ : ∃ g, fuel = g + 1 := ⟨fuel - 1, by omega⟩
    have hstep : SchemaReader_readBranches_lp34 (ax_F (n + 1)) (fuel + 1) = SchemaReader_readBranches_bd34 (ax_F (n + 1)) (SchemaReader_readBranches_lp34 (ax_F (n + 1)) fuel) := rfl
    have eS : spBr c (spTy c D) 0 seen s.1 = -1 - s.1 := rfl
    rw [eS, hstep]
    unfold SchemaReader_readBranches_bd34
    rw [if_pos (show (4 : Int32) < Int32.ofInt (seen.length + 1) from by rw [show (4 : Int32) = Int32.ofInt 4 from rfl, zi_lt (by omega) (by omega) (by omega) (by omega)]; omega), if_neg (show ¬ 0 ≤ -1 - s.1 by omega)]
    exact ⟨s, za_rz (v := 0) (Or.inl rfl), vE_f rfl q0, fun z => absurd z (by omega)⟩
  | succ k ih =>
    intro seen s b fuel hl q0 q1 fr z0 hb hf
    obtain ⟨fuel, rfl⟩ : ∃ g, fuel = g + 1 := ⟨fuel - 1, by omega⟩
    have hstep : SchemaReader_readBranches_lp34 (ax_F (n + 1)) (fuel + 1) = SchemaReader_readBranches_bd34 (ax_F (n + 1)) (SchemaReader_readBranches_lp34 (ax_F (n + 1)) fuel) := rfl
    have pb := pk_b V q0
    obtain ⟨s1, a1, a2, a4⟩ := R s (dep + 1) (by omega) (by omega) q0 q1 fr z0
    have eb := spTy_b hc D s.1 q0 q1
    unfold bd at eb
    rw [spBr_s, spBl_s, hstep]
    unfold SchemaReader_readBranches_bd34
    rw [if_neg (show ¬ (4 : Int32) < Int32.ofInt (seen.length + 1) from by rw [show (4 : Int32) = Int32.ofInt 4 from rfl, zi_lt (by omega) (by omega) (by omega) (by omega)]; omega), sr_gr0 X, Option.bind_some, cu_on, pl_ci Cu_at, sr_gr0 X, Option.bind_some, cu_on, pl_ci (Cu_pk h V q0 (by omega)), pl_ci (De_cbit pb.1 pb.2.1)]
    have hbit : ∀ b' : Int32, b' = (if isCa (pk K c s.1) then sbit 65 (pk K c s.1) else 0) → ((b &&& b' = 0) ↔ ¬ (c s.1 = 85 ∨ c s.1 ∈ seen) ∨ ¬ isCa (c s.1)) ∧ (isCa (c s.1) → b' = sbit 65 (c s.1)) := by
      intro b' eb'
      by_cases ca : isCa (c s.1)
      · have e := pb.2.2.1 (by omega)
        rw [e, if_pos ca] at eb'
        rw [eb', sbit_and hb (by omega) (by omega)]
        exact ⟨⟨Or.inl, fun z => z.elim id (fun w => absurd ca w)⟩, fun _ => rfl⟩
      · have : ¬ isCa (pk K c s.1) := fun z => ca (by rw [← pb.2.2.1 (fun y => by have := pb.2.2.2.1 y; omega)]; exact z)
        rw [if_neg this] at eb'
        rw [eb']
        exact ⟨⟨fun _ => Or.inr ca, fun _ => Int32.and_zero⟩, fun z => absurd z ca⟩
    obtain ⟨hb1, hb2⟩ := hbit _ rfl
    generalize (if isCa (pk K c s.1) then sbit 65 (pk K c s.1) else 0) = b' at *
    by_cases c1 : c s.1 = 85 ∨ c s.1 ∈ seen
    · rw [if_pos c1]
      by_cases ca : isCa (c s.1)
      · rw [if_neg (fun z => (hb1.mp z).elim (fun w => w c1) (fun w => w ca)), if_neg (show ¬ 0 ≤ -1 - s.1 by omega)]
        exact ⟨s, za_rz (v := 0) (Or.inl rfl), vE_f rfl q0, fun z => absurd z (by omega)⟩
      · rw [spTy_cap q0 ca] at a1 a2
        rw [if_neg (show ¬ 0 ≤ -1 - s.1 by omega)] at a1
        rw [if_pos (hb1.mpr (Or.inr ca)), sr_on X, show (1 : Int32) = Int32.ofInt 1 from rfl, zi_add, pl_ci a1, if_pos (show Int32.ofInt 0 = 0 from rfl), if_neg (show ¬ 0 ≤ -1 - s.1 by omega)]
        exact ⟨s1, za_rz (v := 0) (Or.inl rfl), a2, fun z => absurd z (by omega)⟩
    · rw [if_neg c1, if_pos (hb1.mpr (Or.inl c1)), sr_on X, show (1 : Int32) = Int32.ofInt 1 from rfl, zi_add, pl_ci a1]
      generalize hE : spTy c D s.1 = E at *
      by_cases cE : E < 0
      · rw [if_pos cE]
        simp only [if_neg (show ¬ 0 ≤ E by omega)]
        rw [if_pos (show Int32.ofInt 0 = 0 from rfl)]
        exact ⟨s1, za_rz (v := 0) (Or.inl rfl), a2, fun z => absurd z (by omega)⟩
      · rw [if_neg cE]
        simp only [if_pos (show 0 ≤ E by omega)]
        obtain ⟨a3, f1, f2, f3, f4⟩ := a4 (by omega)
        have sE : s1.1 = E := by unfold vEnd at a2; rw [if_pos (by omega)] at a2; exact a2
        have ca : isCa (c s.1) := Classical.byContradiction fun z => by have := spTy_cap (D := D) q0 z; omega
        have nx0 : s1.2.2.1 s.1.toNat = -1 := by rw [f2]; exact (fr _ (by omega)).1
        rw [if_neg (show ¬ Int32.ofInt 1 = 0 from by decide)]
        -- the next one
        have nxt : c E = 44 → ¬ k = 0 → ∃ s', ((ax_gr (cH g K (cAt s1 (E + 1))) (some sr) 4 1).bind fun v22 => (ax_gr (cH g K (cAt s1 (E + 1))) (some sr) 4 0).bind fun v23 => ax_on (cH g K (cAt s1 (E + 1))) v23 0 <| ax_ci (ax_F (n + 1) 27 [ax_A v23] (cH g K (cAt s1 (E + 1)))) fun v25 h24 => ax_on h24 v22 3 <| ax_cv (ax_F (n + 1) 39 [ax_A v22, ax_I (Int32.ofInt s.1), ax_I v25] h24) fun h26 => SchemaReader_readBranches_lp34 (ax_F (n + 1)) fuel (some sr) (Int32.ofInt dep) (b ||| b') (Int32.ofInt (seen.length + 1) + Int32.ofInt 1) h26) = some (.inl (some (ax_I (Int32.ofInt (if 0 ≤ spBr c (spTy c D) k (c s.1 :: seen) (E + 1) then 1 else 0)))), cH g K s') ∧ vEnd s' (spBr c (spTy c D) k (c s.1 :: seen) (E + 1)) ∧ (0 ≤ spBr c (spTy c D) k (c s.1 :: seen) (E + 1) → s'.2.2.2.2 = s.2.2.2.2 ∧ mkF s s' s.1 (spBr c (spTy c D) k (c s.1 :: seen) (E + 1)) ∧ nxC s'.2.2.1 (s.1 :: spBl c (spTy c D) k (E + 1)) ∧ ∀ x ∈ s.1 :: spBl c (spTy c D) k (E + 1), s'.2.1 x.toNat = spTy c D x ∧ mkBs s' c D x) := by
          intro h44 hk0
          have E7 := vb E (by omega)
          have hlt : s.1 < (K 8 : Int) := by omega
          rw [sr_gr1 X, Option.bind_some, sr_gr0 X, Option.bind_some, cu_on, pl_ci Cu_at, sc_on S, cAt_1, pl_cv (Sc_markNext h S q0 (by omega)), if_pos hlt, zi_add]
          have fM : mkF s1 (cNx (cAt s1 (E + 1)) s.1 (E + 1)) s.1 (s.1 + 1) := fun i hi => ⟨rfl, by show (if i = s.1.toNat then _ else _) = _; rw [if_neg (by omega)]; rfl, rfl⟩
          have fM2 : mkF s (cNx (cAt s1 (E + 1)) s.1 (E + 1)) s.1 E := f1.trans (mkF_le (a' := s.1) (b' := E) fM (by omega) (by omega)) (by omega) (by omega)
          have B := bst_of (Q := fun y => y = 85 ∨ y ∈ c s.1 :: seen) (sbit_or hb (x := c s.1) (by omega) (by omega)) (fun y => by
            rw [List.mem_cons]
            constructor
            · rintro (z | z | z)
              · exact Or.inr (Or.inl z)
              · exact Or.inl z
              · exact Or.inr (Or.inr z)
            · rintro (z | z | z)
              · exact Or.inr (Or.inl z)
              · exact Or.inl z
              · exact Or.inr (Or.inr z))
          rw [← hb2 ca] at B
          have := ih (c s.1 :: seen) (cNx (cAt s1 (E + 1)) s.1 (E + 1)) (b ||| b') fuel (by rw [List.length_cons]; omega) (by rw [cNx_1, cAt_1]; omega) (by rw [cNx_1, cAt_1]; omega) (frs_of fr fM2 (Or.inr trivial) (by rw [cNx_1, cAt_1]; omega) (by rw [cNx_1, cAt_1]; omega)) (by show s1.2.2.2.2.1 = 0; rw [a3]; exact z0) B (by omega)
          rw [cNx_1, cAt_1, List.length_cons] at this
          obtain ⟨s', y1, y2, y4⟩ := this
          refine ⟨s', y1, y2, fun z => ?_⟩
          obtain ⟨w0, w1, w2, w3⟩ := y4 z
          have ge : E + 1 ≤ spBr c (spTy c D) k (c s.1 :: seen) (E + 1) := by
            have := spBr_b (N := K 7) hc (fun q a b => spTy_b hc D q a b) k (c s.1 :: seen) (E + 1) (by omega) (by omega)
            unfold bd at this
            omega
          refine ⟨w0.trans a3, fM2.trans w1 (by omega) (by omega), ?_, fun x hx => ?_⟩
          · obtain ⟨k, rfl⟩ : ∃ j, k = j + 1 := ⟨k - 1, by omega⟩
            rw [spBl_s] at w2 ⊢
            refine ⟨?_, w2⟩
            rw [(w1 s.1.toNat (by omega)).2.1]
            show (if s.1.toNat = s.1.toNat then _ else _) = _
            rw [if_pos rfl]
          · rcases List.mem_cons.mp hx with rfl | hx
            · refine ⟨?_, ?_⟩
              · rw [(w1 s.1.toNat (by omega)).1, hE]
                exact f3
              · have m1 : mkBs (cNx (cAt s1 (E + 1)) s.1 (E + 1)) c D s.1 := mkBs_fr (N := K 7) (by omega) hc q0 (by omega) fM (by omega) f4
                exact mkBs_fr (N := K 7) (by omega) hc q0 (by omega) w1 (by omega) m1
            · exact w3 x hx
        have fin : (cAt s1 (E + 1)).2.2.2.2 = s.2.2.2.2 ∧ mkF s (cAt s1 (E + 1)) s.1 (E + 1) ∧ nxC (cAt s1 (E + 1)).2.2.1 [s.1] ∧ ∀ x ∈ [s.1], (cAt s1 (E + 1)).2.1 x.toNat = spTy c D x ∧ mkBs (cAt s1 (E + 1)) c D x := by
          refine ⟨a3, mkF_le f1 (by omega) (by omega), nx0, fun x hx => ?_⟩
          rw [List.mem_singleton] at hx
          subst hx
          exact ⟨by rw [hE]; exact f3, f4⟩
        by_cases c2 : seen = []
        · rw [if_pos (show Int32.ofInt (seen.length + 1) < 2 from by rw [c2]; decide), if_neg (show ¬ Int32.ofInt (seen.length + 1) = 4 from by rw [c2]; decide), if_neg (show ¬ (seen ≠ [] ∧ c E = 41) from fun z => z.1 c2), sr_gr0 X, Option.bind_some, cu_on, show (44 : Int32) = Int32.ofInt 44 from rfl, pl_ci (Cu_take h V (by omega) (by omega) (by decide) (by decide)), sE]
          have hk0 : ¬ k = 0 := by rw [c2] at hl; simp at hl; omega
          by_cases c3 : c E = 44
          · simp only [if_pos c3]
            rw [if_neg (show ¬ Int32.ofInt 1 = 0 from by decide), if_neg (show ¬ (k = 0 ∨ c E ≠ 44) from by omega)]
            exact nxt c3 hk0
          · simp only [if_neg c3]
            rw [if_pos (show Int32.ofInt 0 = 0 from rfl), if_pos (show k = 0 ∨ c E ≠ 44 from Or.inr c3), if_neg (show ¬ 0 ≤ -1 - E by omega)]
            exact ⟨s1, za_rz (v := 0) (Or.inl rfl), vE_f sE (by omega), fun z => absurd z (by omega)⟩
        · have hsl : 0 < seen.length := List.length_pos_iff.mpr c2
          rw [if_neg (show ¬ Int32.ofInt (seen.length + 1) < 2 from by rw [show (2 : Int32) = Int32.ofInt 2 from rfl, zi_lt (by omega) (by omega) (by omega) (by omega)]; omega), sr_gr0 X, Option.bind_some, cu_on, show (41 : Int32) = Int32.ofInt 41 from rfl, pl_ci (Cu_take h V (by omega) (by omega) (by decide) (by decide)), sE]
          by_cases c5 : c E = 41
          · simp only [if_pos c5]
            rw [if_pos (show seen ≠ [] ∧ c E = 41 from ⟨c2, c5⟩), if_neg (show ¬ Int32.ofInt 1 = 0 from by decide), if_neg (show ¬ c E = 44 by omega), if_pos (show 0 ≤ E + 1 by omega)]
            exact ⟨cAt s1 (E + 1), za_rz (v := 1) (Or.inr rfl), vE_p rfl (by omega), fun _ => fin⟩
          · simp only [if_neg c5]
            rw [if_neg (show ¬ (seen ≠ [] ∧ c E = 41) from fun z => c5 z.2), if_pos (show Int32.ofInt 0 = 0 from rfl)]
            by_cases c6 : k = 0
            · rw [if_pos (show Int32.ofInt (seen.length + 1) = 4 from by rw [show ((seen.length : Nat) : Int) + 1 = 4 by omega]; rfl), if_pos (show k = 0 ∨ c E ≠ 44 from Or.inl c6), if_neg (show ¬ 0 ≤ -1 - E by omega)]
              exact ⟨s1, za_rz (v := 0) (Or.inl rfl), vE_f sE (by omega), fun z => absurd z (by omega)⟩
            · rw [if_neg (show ¬ Int32.ofInt (seen.length + 1) = 4 from by rw [show (4 : Int32) = Int32.ofInt 4 from rfl, zi_eq (by omega) (by omega) (by omega) (by omega)]; omega), sr_gr0 X, Option.bind_some, cu_on, show (44 : Int32) = Int32.ofInt 44 from rfl, pl_ci (Cu_take h V (by omega) (by omega) (by decide) (by decide)), sE]
              by_cases c3 : c E = 44
              · simp only [if_pos c3]
                rw [if_neg (show ¬ Int32.ofInt 1 = 0 from by decide), if_neg (show ¬ (k = 0 ∨ c E ≠ 44) from by omega)]
                exact nxt c3 c6
              · simp only [if_neg c3]
                rw [if_pos (show Int32.ofInt 0 = 0 from rfl), if_pos (show k = 0 ∨ c E ≠ 44 from Or.inr c3), if_neg (show ¬ 0 ≤ -1 - E by omega)]
                exact ⟨s1, za_rz (v := 0) (Or.inl rfl), vE_f sE (by omega), fun z => absurd z (by omega)⟩
