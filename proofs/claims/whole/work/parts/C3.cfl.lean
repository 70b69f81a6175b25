theorem spFsO_1 (sp : Int) (f : Int → Int → Int) (g : Int → Int → List Int) (x q : Int) : spFsO sp f g [x] q = g (x + 2) q := rfl
theorem spFsO_2 (sp : Int) (f : Int → Int → Int) (g : Int → Int → List Int) (x y : Int) (l : List Int) (q : Int) : spFsO sp f g (x :: y :: l) q = g (x + 2) q ++ ((if sp = 2 then [44] else []) ++ spFsO sp f g (y :: l) (f (x + 2) q + 1)) := rfl
theorem spFsA_1 (f : Int → Int → Int) (g : Int → Int → List Int) (x q : Int) : spFsA f g [x] q = g (x + 2) q := rfl
theorem spFsA_2 (f : Int → Int → Int) (g : Int → Int → List Int) (x y : Int) (l : List Int) (q : Int) : spFsA f g (x :: y :: l) q = g (x + 2) q ++ spFsA f g (y :: l) (f (x + 2) q + 1) := rfl
theorem Vr_flL {n : Nat} {g : ax_Hp} {K : Nat → Nat} {vr sc tr ti l : Nat} {c v : Int → Int} {val : Bool} {s0 : cS} {dep q : Int} {D : Nat} (h : kOk K) (X : vrX g K vr sc val) (V : cvX g K v) (S : csX g K sc tr ti l c) (R : rdP g K vr c v val (n + 1) D) (d0 : 0 ≤ dep) (d1 : dep + 1 + D ≤ 6) (q0 : 0 ≤ q) (r0 : bRm K s0 0) : ∀ (fl : List Int) (s : cS) (i : Nat) (L0 U0 : List Int) (fuel : Nat), i + fl.length ≤ 6 → nxC s0.2.2.1 fl → (∀ x ∈ fl, 0 ≤ x ∧ 0 ≤ spTy c D (x + 2) ∧ MkN s0.2.2.1 c D (x + 2)) → q ≤ s.1 → s.1 ≤ K 7 → enE val s s0 → s.2.2.1 = s0.2.2.1 → bsE K s0 s L0 → unE s0 s U0 → (L0.length : Int) ≤ s.1 - q → bRm K s (161 - s.1) → fl.length < fuel →
    ∃ s', ValueReader_readFields_lp26 (ax_F (n + 1)) fuel (some vr) (Int32.ofInt dep) (Int32.ofInt (fl.getD 0 0)) (Int32.ofInt i) (cH g K s) = some (.inl (some (ax_I (Int32.ofInt (if 0 ≤ spFs v (spVal c v val D) fl s.1 then 1 else 0)))), cH g K s') ∧ vEnd s' (spFs v (spVal c v val D) fl s.1) ∧ enE val s' s0 ∧ s'.2.2.1 = s0.2.2.1 ∧ (0 ≤ spFs v (spVal c v val D) fl s.1 → bsE K s0 s' (L0 ++ spFsO 1 (spVal c v val D) (spO 1 c v val D) fl s.1) ∧ unE s0 s' (U0 ++ spFsA (spVal c v val D) (spU c v val D) fl s.1) ∧ ((L0 ++ spFsO 1 (spVal c v val D) (spO 1 c v val D) fl s.1).length : Int) ≤ spFs v (spVal c v val D) fl s.1 - q) := by
  have k7 := h.2.1
  have l1 := (S_lt S).1
  have flt : ∀ s : cS, 0 ≤ s.1 → vEnd s (-1 - s.1) := fun s q0 => by unfold vEnd; rw [if_neg (show ¬ 0 ≤ -1 - s.1 by omega)]; omega
  intro fl
  induction fl with
  | nil => intro s i L0 U0 fuel _ hn; exact absurd hn (fun z => z)
  | cons x fl ih =>
    intro s i L0 U0 fuel hi hn hx hq hq7 e1 e2 B U hl r hf
    obtain ⟨fuel, rfl⟩ : ∃ g, fuel = g + 1 := ⟨fuel - 1, by omega⟩
    have hstep : ValueReader_readFields_lp26 (ax_F (n + 1)) (fuel + 1) = ValueReader_readFields_bd26 (ax_F (n + 1)) (ValueReader_readFields_lp26 (ax_F (n + 1)) fuel) := rfl
    rw [List.length_cons] at hi hf
    obtain ⟨x0, xT, xM⟩ := hx x List.mem_cons_self
    have tl := (spTy_gt (S_lt S).2.1 D (x + 2) (by omega) xT).2
    have tl2 := (spTy_gt (S_lt S).2.1 D (x + 2) (by omega) xT).1
    have lk := S.2.2.2.2.2.2.1
    obtain ⟨s1, a1, a2, a3, a4, a5⟩ := R s (x + 2) (dep + 1) (by omega) (by omega) (by omega) xT (by rw [e2]; exact xM) (by omega) hq7 r
    have ev := fun z => spVal_gt (c := c) (val := val) (V_lt V).1 D (x + 2) s.1 (by omega) hq7 z
    have hg : (x :: fl).getD 0 0 = x := rfl
    have nx1 := Sc_next (m := n) (s := s1) (i := x) h S x0 (by omega)
    rw [a4.trans e2] at nx1
    rw [hstep, hg]
    unfold ValueReader_readFields_bd26
    rw [if_neg (show ¬ (6 : Int32) ≤ Int32.ofInt i from by rw [show (6 : Int32) = Int32.ofInt 6 from rfl, zi_le (by omega) (by omega) (by omega) (by omega)]; omega), vr_gr1 X, Option.bind_some, sc_on S, pl_ci Sc_fty, vr_on X, show (1 : Int32) = Int32.ofInt 1 from rfl, zi_add, pl_ci a1]
    cases fl with
    | nil =>
      rw [spFs_1, spFsO_1, spFsA_1]
      have hn1 : s0.2.2.1 x.toNat = -1 := hn
      rw [hn1] at nx1
      generalize hE : spVal c v val D (x + 2) s.1 = E at *
      generalize spO 1 c v val D (x + 2) s.1 = Lo at *
      generalize spU c v val D (x + 2) s.1 = Uo at *
      by_cases cE : E < 0
      · rw [if_pos cE]
        simp only [if_neg (show ¬ 0 ≤ E by omega)]
        rw [if_pos (show Int32.ofInt 0 = 0 from rfl)]
        exact ⟨s1, za_rz (v := 0) (Or.inl rfl), a2, a3.trans e1, a4.trans e2, fun z => absurd z (by omega)⟩
      · rw [if_neg cE]
        simp only [if_pos (show 0 ≤ E by omega)]
        obtain ⟨b1, b2, b3⟩ := a5 (by omega)
        obtain ⟨g1, g2⟩ := ev (by omega)
        have sE : s1.1 = E := by unfold vEnd at a2; rw [if_pos (by omega)] at a2; exact a2
        have B1 := B.trans r0.1 b1
        have U1 := U.trans b2
        rw [if_neg (show ¬ Int32.ofInt 1 = 0 from by decide), vr_gr1 X, Option.bind_some, sc_on S, pl_ci nx1, if_pos (show Int32.ofInt (-1) = -Int32.ofInt 1 from rfl), vr_gr0 X, Option.bind_some, cu_on, show (125 : Int32) = Int32.ofInt 125 from rfl, pl_ci (Cu_take h V (by omega) (by omega) (by decide) (by decide)), sE]
        by_cases c1 : v E = 125
        · simp only [if_pos c1]
          rw [if_pos (show 0 ≤ E + 1 by omega)]
          refine ⟨_, za_rz (v := 1) (Or.inr rfl), ?_, a3.trans e1, a4.trans e2, fun _ => ⟨B1, U1, ?_⟩⟩
          · unfold vEnd; rw [if_pos (show 0 ≤ E + 1 by omega)]; rfl
          · rw [List.length_append]; omega
        · simp only [if_neg c1]
          rw [if_neg (show ¬ 0 ≤ -1 - E by omega)]
          exact ⟨s1, za_rz (v := 0) (Or.inl rfl), by rw [← sE]; exact flt s1 (by omega), a3.trans e1, a4.trans e2, fun z => absurd z (by omega)⟩
    | cons y fl =>
      rw [spFs_2, spFsO_2, spFsA_2]
      have hn1 : s0.2.2.1 x.toNat = y := hn.1
      obtain ⟨y0, yT, yM⟩ := hx y (List.mem_cons_of_mem _ List.mem_cons_self)
      have yl := spTy_gt (S_lt S).2.1 D (y + 2) (by omega) yT
      rw [hn1] at nx1
      generalize hE : spVal c v val D (x + 2) s.1 = E at *
      generalize spO 1 c v val D (x + 2) s.1 = Lo at *
      generalize spU c v val D (x + 2) s.1 = Uo at *
      by_cases cE : E < 0
      · rw [if_pos cE]
        simp only [if_neg (show ¬ 0 ≤ E by omega)]
        rw [if_pos (show Int32.ofInt 0 = 0 from rfl)]
        exact ⟨s1, za_rz (v := 0) (Or.inl rfl), a2, a3.trans e1, a4.trans e2, fun z => absurd z (by omega)⟩
      · rw [if_neg cE]
        simp only [if_pos (show 0 ≤ E by omega)]
        obtain ⟨b1, b2, b3⟩ := a5 (by omega)
        obtain ⟨g1, g2⟩ := ev (by omega)
        have sE : s1.1 = E := by unfold vEnd at a2; rw [if_pos (by omega)] at a2; exact a2
        have r1 : bRm K s1 (161 - E) := bRm_le (bsE_rm b1 r) (by omega)
        have B1 := B.trans r0.1 b1
        have U1 := U.trans b2
        rw [if_neg (show ¬ Int32.ofInt 1 = 0 from by decide), vr_gr1 X, Option.bind_some, sc_on S, pl_ci nx1, if_neg (show ¬ Int32.ofInt y = -Int32.ofInt 1 from by rw [zi_neg, zi_eq (by omega) (by omega) (by omega) (by omega)]; omega), vr_gr0 X, Option.bind_some, cu_on, show (44 : Int32) = Int32.ofInt 44 from rfl, pl_ci (Cu_take h V (by omega) (by omega) (by decide) (by decide)), sE]
        have vb := (V_lt V).2.2 E
        by_cases c1 : v E = 44
        · rw [if_pos c1]
          simp only [if_pos c1]
          have E7 := vb (by omega)
          rw [if_neg (show ¬ Int32.ofInt 1 = 0 from by decide), zi_add, if_neg (show ¬ (1 : Int) = 2 by omega), List.nil_append]
          have := ih (cAt s1 (E + 1)) (i + 1) (L0 ++ Lo) (U0 ++ Uo) fuel (by omega) hn.2 (fun z hz => hx z (List.mem_cons_of_mem _ hz)) (by show q ≤ E + 1; omega) (by show E + 1 ≤ _; omega) (a3.trans e1) (a4.trans e2) B1 U1 (by rw [List.length_append]; show _ ≤ E + 1 - q; omega) (bRm_le r1 (by show 161 - (E + 1) ≤ _; omega)) (by omega)
          rw [cAt_1, List.append_assoc, List.append_assoc] at this
          exact this
        · rw [if_neg c1]
          simp only [if_neg c1]
          rw [if_pos (show Int32.ofInt 0 = 0 from rfl), if_neg (show ¬ 0 ≤ -1 - E by omega)]
          exact ⟨s1, za_rz (v := 0) (Or.inl rfl), by rw [← sE]; exact flt s1 (by omega), a3.trans e1, a4.trans e2, fun z => absurd z (by omega)⟩
theorem Vr_fl {n : Nat} {g : ax_Hp} {K : Nat → Nat} {vr sc tr ti l : Nat} {c v : Int → Int} {val : Bool} {s : cS} {t dep : Int} {D : Nat} (h : kOk K) (X : vrX g K vr sc val) (V : cvX g K v) (S : csX g K sc tr ti l c) (R : rdP g K vr c v val (n + 1) D) (d0 : 0 ≤ dep) (d1 : dep + 1 + D ≤ 6) (t0 : 0 ≤ t) (hA : c t = 82) (hT : 0 ≤ spTy c (D + 1) t) (hM : MkN s.2.2.1 c (D + 1) t) (q0 : 0 ≤ s.1) (q1 : s.1 ≤ K 7) (r : bRm K s (161 - s.1)) : ∃ s', ax_F (n + 2) 64 [ax_A (some vr), ax_I (Int32.ofInt t), ax_I (Int32.ofInt dep)] (cH g K s) = some (.inl (some (ax_I (Int32.ofInt (if 0 ≤ spVal c v val (D + 1) t s.1 then 1 else 0)))), cH g K s') ∧ vPost K val s s' (spVal c v val (D + 1) t s.1) (spO 1 c v val (D + 1) t s.1) (spU c v val (D + 1) t s.1) := by
  have k7 := h.2.1
  obtain ⟨⟨fl, p1⟩, p2, p3⟩ := spPt_R (N := l) (by omega) (S_lt S).2.1 t0 hT hA
  obtain ⟨m1, m2⟩ := hM.2.2 hA
  have eV : spVal c v val (D + 1) t s.1 = if v s.1 = 123 then spFs v (spVal c v val D) (spPt c (D + 1) t) (s.1 + 1) else -1 - s.1 := by
    rw [spVal_s]; unfold spV1; rw [if_neg (by omega), if_neg (by omega), if_pos hA]
  have eO : spO 1 c v val (D + 1) t s.1 = spFsO 1 (spVal c v val D) (spO 1 c v val D) (spPt c (D + 1) t) (s.1 + 1) := by
    rw [spO_s]; unfold spO1; rw [if_neg (by omega), if_neg (by omega), if_pos hA, if_neg (by omega), if_neg (by omega), List.nil_append, List.append_nil]
  have eU : spU c v val (D + 1) t s.1 = spFsA (spVal c v val D) (spU c v val D) (spPt c (D + 1) t) (s.1 + 1) := by
    rw [spU_s]; unfold spU1; rw [if_neg (by omega), if_neg (by omega), if_pos hA]
  rw [eV, eO, eU, ValueReader_readFields_F]
  unfold ValueReader_readFields_b
  rw [vr_gr0 X, Option.bind_some, cu_on, show (123 : Int32) = Int32.ofInt 123 from rfl, pl_ci (Cu_take h V q0 (by omega) (by decide) (by decide))]
  have vb := (V_lt V).2.2
  by_cases c1 : v s.1 = 123
  · have q7 := vb s.1 (by omega)
    rw [if_pos c1]
    simp only [if_pos c1]
    rw [if_neg (show ¬ Int32.ofInt 1 = 0 from by decide), vr_gr1 X, Option.bind_some, sc_on S, pl_ci Sc_fst]
    have L := Vr_flL (n := n) (s0 := s) (q := s.1) h X V S R d0 d1 q0 (bRm_le r (by omega)) (spPt c (D + 1) t) (cAt s (s.1 + 1)) 0 [] [] ax_fuel (by omega) m1 (fun x hx => ⟨by have := (p3 x hx).1; omega, (p3 x hx).2.1, m2 x hx⟩) (by show s.1 ≤ s.1 + 1; omega) (by show s.1 + 1 ≤ _; omega) (enE_r rfl rfl) rfl (bsE_0 rfl) (unE_0 rfl) (by show ((0 : Nat) : Int) ≤ s.1 + 1 - s.1; omega) (bRm_le (n := 161 - s.1) r (by show 161 - (s.1 + 1) ≤ _; omega)) (by unfold ax_fuel; omega)
    rw [cAt_1, List.nil_append, List.nil_append, show (spPt c (D + 1) t).getD 0 0 = t + 2 from by rw [p1]; rfl] at L
    exact L
  · rw [if_neg c1]
    simp only [if_neg c1]
    rw [if_pos (show Int32.ofInt 0 = 0 from rfl), if_neg (show ¬ 0 ≤ -1 - s.1 by omega)]
    refine ⟨s, za_rz (v := 0) (Or.inl rfl), ?_, enE_r rfl rfl, rfl, fun z => absurd z (by omega)⟩
    unfold vEnd; rw [if_neg (show ¬ 0 ≤ -1 - s.1 by omega)]; omega
