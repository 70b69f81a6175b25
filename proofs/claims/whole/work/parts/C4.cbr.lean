theorem Sc_brL {n : Nat} {g : ax_Hp} {K : Nat → Nat} {sc tr ti l : Nat} {c : Int → Int} {s : cS} {x : Int} (h : kOk K) (S : csX g K sc tr ti l c) (x0 : -100 ≤ x) (x1 : x < 128) : ∀ (fl : List Int) (i : Nat) (fuel : Nat), fl ≠ [] → i + fl.length ≤ 4 → nxC s.2.2.1 fl → (∀ y ∈ fl, 0 ≤ y ∧ y < l) → (x < 0 ∨ (i : Int) ≤ x) → fl.length < fuel → Schema_branch_lp9 (ax_F (n + 1)) fuel (some sc) (Int32.ofInt x) (Int32.ofInt (fl.getD 0 0)) (Int32.ofInt i) (cH g K s) = some (.inl (some (ax_I (Int32.ofInt (if 0 ≤ x ∧ x - i < fl.length then fl.getD (x - i).toNat 0 else -1)))), cH g K s) := by
  have l1 := (S_lt S).1
  intro fl
  induction fl with
  | nil => intro i fuel z; exact absurd rfl z
  | cons y fl ih =>
    intro i fuel _ hi hn hy hx hf
    obtain ⟨fuel, rfl⟩ : ∃ g, fuel = g + 1 := ⟨fuel - 1, by omega⟩
    have hstep : Schema_branch_lp9 (ax_F (n + 1)) (fuel + 1) = Schema_branch_bd9 (ax_F (n + 1)) (Schema_branch_lp9 (ax_F (n + 1)) fuel) := rfl
    rw [List.length_cons] at hi hf ⊢
    have y0 := hy y List.mem_cons_self
    have lk := S.2.2.2.2.2.2.1
    have hg : (y :: fl).getD 0 0 = y := rfl
    have nx1 := Sc_next (m := n) (s := s) (i := y) h S y0.1 (by omega)
    rw [hstep, hg]
    unfold Schema_branch_bd9
    rw [if_neg (show ¬ (4 : Int32) ≤ Int32.ofInt i from by rw [show (4 : Int32) = Int32.ofInt 4 from rfl, zi_le (by omega) (by omega) (by omega) (by omega)]; omega), if_neg (show ¬ Int32.ofInt y = -1 from by rw [show (-1 : Int32) = Int32.ofInt (-1) from rfl, zi_eq (by omega) (by omega) (by omega) (by omega)]; omega)]
    by_cases c1 : (i : Int) = x
    · rw [if_pos (show Int32.ofInt i = Int32.ofInt x from by rw [c1]), if_pos (by omega), show (x - (i : Int)).toNat = 0 by omega]
      rfl
    · rw [if_neg (show ¬ Int32.ofInt i = Int32.ofInt x from by rw [zi_eq (by omega) (by omega) (by omega) (by omega)]; exact c1), pl_on ((cH_o S.2.1).trans S.1), pl_ci nx1, show (1 : Int32) = Int32.ofInt 1 from rfl, zi_add]
      cases fl with
      | nil =>
        have hn1 : s.2.2.1 y.toNat = -1 := hn
        obtain ⟨fuel, rfl⟩ : ∃ g, fuel = g + 1 := ⟨fuel - 1, by omega⟩
        have hstep : Schema_branch_lp9 (ax_F (n + 1)) (fuel + 1) = Schema_branch_bd9 (ax_F (n + 1)) (Schema_branch_lp9 (ax_F (n + 1)) fuel) := rfl
        rw [hn1, hstep, if_neg (show ¬ (0 ≤ x ∧ x - (i : Int) < (([] : List Int).length + 1 : Nat)) from by rw [List.length_nil]; omega)]
        unfold Schema_branch_bd9
        by_cases c4 : (4 : Int32) ≤ Int32.ofInt (i + 1)
        · rw [if_pos c4]; rfl
        · rw [if_neg c4, if_pos (show Int32.ofInt (-1) = -1 from rfl)]; rfl
      | cons z fl =>
        have hn1 : s.2.2.1 y.toNat = z := hn.1
        rw [hn1]
        have := ih (i + 1) fuel (by simp) (by omega) hn.2 (fun w hw => hy w (List.mem_cons_of_mem _ hw)) (by omega) (by omega)
        rw [show (z :: fl).getD 0 0 = z from rfl] at this
        rw [show (i : Int) + 1 = ((i + 1 : Nat) : Int) by omega, this]
        by_cases c2 : 0 ≤ x ∧ x - (i : Int) < (((z :: fl).length + 1 : Nat) : Int)
        · rw [if_pos c2, if_pos (by omega), show (x - (i : Int)).toNat = (x - ((i + 1 : Nat) : Int)).toNat + 1 by omega]
          rfl
        · rw [if_neg c2, if_neg (by omega)]
theorem Sc_br {n : Nat} {g : ax_Hp} {K : Nat → Nat} {sc tr ti l : Nat} {c : Int → Int} {s : cS} {t x : Int} {fl : List Int} (h : kOk K) (S : csX g K sc tr ti l c) (x0 : -100 ≤ x) (x1 : x < 128) (hf : ∃ k, fl = (t + 2) :: k) (h4 : fl.length ≤ 4) (hn : nxC s.2.2.1 fl) (hy : ∀ y ∈ fl, 0 ≤ y ∧ y < l) : ax_F (n + 2) 62 [ax_A (some sc), ax_I (Int32.ofInt t), ax_I (Int32.ofInt x)] (cH g K s) = some (.inl (some (ax_I (Int32.ofInt (if 0 ≤ x ∧ x < fl.length then fl.getD x.toNat 0 else -1)))), cH g K s) := by
  obtain ⟨k, rfl⟩ := hf
  rw [Schema_branch_F]
  unfold Schema_branch_b
  rw [sc_on S, pl_ci Sc_fst]
  have := Sc_brL (n := n) (s := s) (x := x) h S x0 x1 ((t + 2) :: k) 0 ax_fuel (by simp) (by omega) hn hy (by omega) (by unfold ax_fuel; omega)
  rw [show x - ((0 : Nat) : Int) = x by omega] at this
  exact this
theorem getD_mem {l : List Int} {i : Nat} (h : i < l.length) : l.getD i 0 ∈ l := by
  rw [List.getD_eq_getElem?_getD, List.getElem?_eq_getElem h]
  exact List.getElem_mem h
theorem Vr_br {n : Nat} {g : ax_Hp} {K : Nat → Nat} {vr sc tr ti l : Nat} {c v : Int → Int} {s : cS} {t dep : Int} {D : Nat} (h : kOk K) (X : vrX g K vr sc true) (V : cvX g K v) (S : csX g K sc tr ti l c) (R : rdP g K vr c v true (n + 2) D) (d0 : 0 ≤ dep) (d1 : dep + 1 + D ≤ 6) (t0 : 0 ≤ t) (hA : c t = 85) (hT : 0 ≤ spTy c (D + 1) t) (hM : MkN s.2.2.1 c (D + 1) t) (q0 : 0 ≤ s.1) (q1 : s.1 ≤ K 7) (r : bRm K s (161 - s.1)) : ∃ s', ax_F (n + 3) 61 [ax_A (some vr), ax_I (Int32.ofInt t), ax_I (Int32.ofInt dep)] (cH g K s) = some (.inl (some (ax_I (Int32.ofInt (if 0 ≤ spVal c v true (D + 1) t s.1 then 1 else 0)))), cH g K s') ∧ vPost K true s s' (spVal c v true (D + 1) t s.1) (spO 1 c v true (D + 1) t s.1) (spU c v true (D + 1) t s.1) := by
  have k7 := h.2.1
  obtain ⟨p1, p2, p3⟩ := spPt_U (N := l) (S_lt S).2.1 t0 hT hA
  obtain ⟨m1, m2⟩ := hM.2.1 hA
  have eV : spVal c v true (D + 1) t s.1 = if 0 ≤ v s.1 - 48 ∧ v s.1 - 48 < (spPt c (D + 1) t).length then (if v (s.1 + 1) = 58 then spVal c v true D ((spPt c (D + 1) t).getD (v s.1 - 48).toNat 0) (s.1 + 2) else -1 - (s.1 + 1)) else -1 - s.1 := by
    rw [spVal_s]; unfold spV1; rw [if_neg (by omega), if_pos hA]; rfl
  have eO : spO 1 c v true (D + 1) t s.1 = [2 * (v s.1 - 48)] ++ spO 1 c v true D ((spPt c (D + 1) t).getD (v s.1 - 48).toNat 0) (s.1 + 2) := by
    rw [spO_s]; unfold spO1; rw [if_neg (by omega), if_pos hA]; rfl
  have eU : spU c v true (D + 1) t s.1 = spU c v true D ((spPt c (D + 1) t).getD (v s.1 - 48).toNat 0) (s.1 + 2) := by
    rw [spU_s]; unfold spU1; rw [if_neg (by omega), if_pos hA]; rfl
  have b := pk_b V q0
  have hy : ∀ y ∈ spPt c (D + 1) t, 0 ≤ y ∧ y < l := fun y hy => by
    obtain ⟨z1, z2, z3, z4⟩ := p3 y hy
    have := spTy_gt (S_lt S).2.1 D y (by omega) z2
    omega
  have vb := (V_lt V).2.2
  rw [eV, eO, eU, ValueReader_readBranch_F]
  unfold ValueReader_readBranch_b
  rw [vr_gr0 X, Option.bind_some, cu_on, pl_ci (Cu_pk h V q0 (by omega)), vr_gr1 X, Option.bind_some, sc_on S, show (48 : Int32) = Int32.ofInt 48 from rfl, zi_sub, pl_ci (Sc_br h S (by omega) (by omega) p1 p2 m1 hy)]
  generalize hfl : spPt c (D + 1) t = fl at *
  by_cases c1 : 0 ≤ v s.1 - 48 ∧ v s.1 - 48 < fl.length
  · have hv : v s.1 ≠ 0 := by omega
    have q7 := vb s.1 hv
    rw [b.2.2.1 hv, if_pos c1, if_pos c1]
    have hmem : fl.getD (v s.1 - 48).toNat 0 ∈ fl := getD_mem (by omega)
    generalize hx : fl.getD (v s.1 - 48).toNat 0 = x at *
    obtain ⟨z1, z2, z3, z4⟩ := p3 x hmem
    have yl := (hy x hmem)
    have l1 := (S_lt S).1
    rw [if_neg (show ¬ Int32.ofInt x = -1 from by rw [show (-1 : Int32) = Int32.ofInt (-1) from rfl, zi_eq (by omega) (by omega) (by omega) (by omega)]; omega), vr_gr0 X, Option.bind_some, cu_on, pl_cv (Cu_stepN h V q0 (by omega) hv), vr_gr2 X, Option.bind_some, ro_on h, show (2 : Int32) = Int32.ofInt 2 from rfl, zi_mul]
    obtain ⟨s1, y, a1, a2, a3, a4⟩ := Ro_addE (m := n + 1) (g := g) (s := cAt s (s.1 + 1)) (x := 2 * (v s.1 - 48)) h (bRm_le (n := 161 - s.1) r (by omega))
    have r1 : bRm K s1 (161 - s.1 - ((1 : Nat) : Int)) := bsE_rm (n := 161 - s.1) a4 r
    rw [cAt_1] at a2
    rw [pl_ci a1, vr_gr0 X, Option.bind_some, cu_on, show (58 : Int32) = Int32.ofInt 58 from rfl, pl_ci (Cu_take h V (by omega) (by omega) (by decide) (by decide)), a2]
    by_cases c2 : v (s.1 + 1) = 58
    · rw [if_pos c2]
      simp only [if_pos c2]
      have q8 := vb (s.1 + 1) (by omega)
      rw [if_neg (show ¬ Int32.ofInt 1 = 0 from by decide), vr_on X, show (1 : Int32) = Int32.ofInt 1 from rfl, zi_add]
      have := R (cAt s1 (s.1 + 1 + 1)) x (dep + 1) (by omega) (by omega) (by omega) z2 (by show MkN s1.2.2.1 c D x; rw [a3.2.1]; exact m2 x hmem) (by show 0 ≤ s.1 + 1 + 1; omega) (by show s.1 + 1 + 1 ≤ _; omega) (bRm_le r1 (by show 161 - (s.1 + 1 + 1) ≤ _; omega))
      rw [cAt_1, show s.1 + 1 + 1 = s.1 + 2 by omega] at this
      obtain ⟨s2, f1, f2, f3, f4, f5⟩ := this
      rw [show s.1 + 1 + 1 = s.1 + 2 by omega, pl_ci f1]
      have ev := fun z => spVal_gt (c := c) (val := true) (V_lt V).1 D x (s.1 + 2) (by omega) (by omega) z
      refine ⟨s2, ?_, f2, f3.trans (enE_r a3.1 a3.2.2), f4.trans a3.2.1, fun z => ?_⟩
      · by_cases e : 0 ≤ spVal c v true D x (s.1 + 2)
        · rw [if_pos e, if_neg (show ¬ Int32.ofInt 1 = 0 from by decide)]; exact za_rz (v := 1) (Or.inr rfl)
        · rw [if_neg e, if_pos (show Int32.ofInt 0 = 0 from rfl)]; exact za_rz (v := 0) (Or.inl rfl)
      · obtain ⟨w1, w2, w3⟩ := f5 z
        have w3' : ((spO 1 c v true D x (s.1 + 2)).length : Int) ≤ spVal c v true D x (s.1 + 2) - (s.1 + 2) := w3
        refine ⟨bsE.trans r.1 a4 w1, fun i => ?_, by rw [List.singleton_append, List.length_cons]; omega⟩
        have := w2 i
        rw [this]
        show (if _ then _ else s1.2.2.2.1 i) = _
        rw [a3.2.2]; rfl
    · rw [if_neg c2]
      simp only [if_neg c2]
      rw [if_pos (show Int32.ofInt 0 = 0 from rfl), if_neg (show ¬ 0 ≤ -1 - (s.1 + 1) by omega)]
      refine ⟨s1, za_rz (v := 0) (Or.inl rfl), ?_, enE_r a3.1 a3.2.2, a3.2.1, fun z => absurd z (by omega)⟩
      unfold vEnd; rw [if_neg (show ¬ 0 ≤ -1 - (s.1 + 1) by omega)]; omega
  · have hp : ¬ (0 ≤ pk K v s.1 - 48 ∧ pk K v s.1 - 48 < fl.length) := by
      by_cases hv : v s.1 = 0
      · rw [b.2.2.2.1 hv]; omega
      · rw [b.2.2.1 hv]; exact c1
    rw [if_neg hp, if_neg c1, if_pos (show Int32.ofInt (-1) = -1 from rfl), if_neg (show ¬ 0 ≤ -1 - s.1 by omega)]
    refine ⟨s, za_rz (v := 0) (Or.inl rfl), ?_, enE_r rfl rfl, rfl, fun z => absurd z (by omega)⟩
    unfold vEnd; rw [if_neg (show ¬ 0 ≤ -1 - s.1 by omega)]; omega
theorem Vr_fb {n : Nat} {g : ax_Hp} {K : Nat → Nat} {vr sc tr ti l : Nat} {c v : Int → Int} {s : cS} {t dep : Int} {D : Nat} (h : kOk K) (h78 : K 7 ≤ K 8) (X : vrX g K vr sc false) (V : cvX g K v) (S : csX g K sc tr ti l c) (R : rdP g K vr c v false (n + 1) D) (d0 : 0 ≤ dep) (d1 : dep + 1 + D ≤ 6) (t0 : 0 ≤ t) (hA : c t = 85) (hT : 0 ≤ spTy c (D + 1) t) (hM : MkN s.2.2.1 c (D + 1) t) (q0 : 0 ≤ s.1) (q1 : s.1 ≤ K 7) (r : bRm K s (161 - s.1)) : ∃ s', ax_F (n + 2) 58 [ax_A (some vr), ax_I (Int32.ofInt t), ax_I (Int32.ofInt dep)] (cH g K s) = some (.inl (some (ax_I (Int32.ofInt (if 0 ≤ spVal c v false (D + 1) t s.1 then 1 else 0)))), cH g K s') ∧ vPost K false s s' (spVal c v false (D + 1) t s.1) (spO 1 c v false (D + 1) t s.1) (spU c v false (D + 1) t s.1) := by
  have k7 := h.2.1
  obtain ⟨⟨fl, p1⟩, p2, p3⟩ := spPt_U (N := l) (S_lt S).2.1 t0 hT hA
  obtain ⟨m1, m2⟩ := hM.2.1 hA
  have hmem : t + 2 ∈ spPt c (D + 1) t := by rw [p1]; exact List.mem_cons_self
  obtain ⟨z1, z2, z3, z4⟩ := p3 _ hmem
  have eV : spVal c v false (D + 1) t s.1 = spVal c v false D (t + 2) s.1 := by
    rw [spVal_s]; unfold spV1; rw [if_neg (by omega), if_pos hA]; rfl
  have eO : spO 1 c v false (D + 1) t s.1 = spO 1 c v false D (t + 2) s.1 := by
    rw [spO_s]; unfold spO1; rw [if_neg (by omega), if_pos hA]; rfl
  have eU : spU c v false (D + 1) t s.1 = s.1 :: spU c v false D (t + 2) s.1 := by
    rw [spU_s]; unfold spU1; rw [if_neg (by omega), if_pos hA]; rfl
  rw [eV, eO, eU, ValueReader_readFirstBranch_F]
  unfold ValueReader_readFirstBranch_b
  rw [vr_gr1 X, Option.bind_some, vr_gr0 X, Option.bind_some, cu_on, pl_ci Cu_at, sc_on S, pl_cv (Sc_markUnion h S q0 (by omega)), vr_gr1 X, Option.bind_some, sc_on S, pl_ci Sc_fst, vr_on X, show (1 : Int32) = Int32.ofInt 1 from rfl, zi_add]
  have ev := fun z => spVal_gt (c := c) (val := false) (V_lt V).1 D (t + 2) s.1 q0 q1 z
  generalize hs1 : (if s.1 < (K 8 : Int) then cUn s s.1 1 else s) = s1
  have g1 : s1.1 = s.1 := by rw [← hs1]; split <;> rfl
  have g2 : s1.2.1 = s.2.1 := by rw [← hs1]; split <;> rfl
  have g3 : s1.2.2.1 = s.2.2.1 := by rw [← hs1]; split <;> rfl
  have g4 : s1.2.2.2.2 = s.2.2.2.2 := by rw [← hs1]; split <;> rfl
  have g5 : s.1 < K 8 → ∀ i : Nat, s1.2.2.2.1 i = if (i : Int) = s.1 then 1 else s.2.2.2.1 i := fun z i => by
    rw [← hs1, if_pos z]
    show (if i = s.1.toNat then 1 else _) = _
    by_cases y : (i : Int) = s.1
    · rw [if_pos y, if_pos (by omega)]
    · rw [if_neg y, if_neg (by omega)]
  have rr : bRm K s1 (161 - s1.1) := by
    unfold bRm
    rw [g4, g1]
    exact r
  obtain ⟨s2, f1, f2, f3, f4, f5⟩ := R s1 (t + 2) (dep + 1) (by omega) (by omega) (by omega) z2 (by rw [g3]; exact m2 _ hmem) (by omega) (by omega) rr
  rw [g1] at f1 f2 f5
  rw [pl_ci f1]
  refine ⟨s2, za_rz rz_b, f2, ⟨f3.1.trans g2, fun z => absurd z (by decide)⟩, f4.trans g3, fun z => ?_⟩
  obtain ⟨w1, w2, w3⟩ := f5 z
  have hlt := ev z
  refine ⟨⟨fun y => (w1.1 y).trans g4, fun y => ?_⟩, fun i => ?_, w3⟩
  · have := w1.2 y
    rw [g4] at this
    exact this
  · rw [w2 i, g5 (by omega) i]
    by_cases a : (i : Int) ∈ spU c v false D (t + 2) s.1
    · rw [if_pos a, if_pos (List.mem_cons_of_mem _ a)]
    · rw [if_neg a]
      by_cases b : (i : Int) = s.1
      · rw [if_pos b, if_pos (by rw [b]; exact List.mem_cons_self)]
      · rw [if_neg b, if_neg (fun y => (List.mem_cons.mp y).elim b a)]
/-- the class reads values and literals as the text says -/
theorem Vr_all {g : ax_Hp} {K : Nat → Nat} {vr sc tr ti l : Nat} {c v : Int → Int} {val : Bool} (h : kOk K) (h78 : val = false → K 7 ≤ K 8) (X : vrX g K vr sc val) (V : cvX g K v) (S : csX g K sc tr ti l c) : ∀ (D m : Nat), rdP g K vr c v val (m + 2 * D + 5) D
  | 0, m => fun s t dep d0 d1 t0 hT hM q0 q1 r => by
    have hc := spTy_c 0 t t0 hT
    exact Vr_leaf h X V S d0 (by omega) t0 (by omega) q0 q1 r
  | D + 1, m => fun s t dep d0 d1 t0 hT hM q0 q1 r => by
    have R : rdP g K vr c v val (m + 2 * D + 5) D := Vr_all h h78 X V S D m
    have hc := spTy_c (D + 1) t t0 hT
    rw [show m + 2 * (D + 1) + 5 = m + 2 * D + 4 + 3 by omega]
    rcases hc with hp | hp | ⟨_, hp | hp | hp⟩
    · have eV : spVal c v val (D + 1) t s.1 = spLf c v t s.1 := by rw [spVal_s]; unfold spV1; rw [if_neg (by omega), if_neg (by omega), if_neg (by omega)]
      have eO : spO 1 c v val (D + 1) t s.1 = spLo 1 c v t s.1 := by rw [spO_s]; unfold spO1; rw [if_neg (by omega), if_neg (by omega), if_neg (by omega)]
      have eU : spU c v val (D + 1) t s.1 = [] := by rw [spU_s]; unfold spU1; rw [if_neg (by omega), if_neg (by omega), if_neg (by omega)]
      rw [eV, eO, eU]
      exact Vr_leaf (m := m + 2 * D + 2) h X V S d0 (by omega) t0 (Or.inl hp) q0 q1 r
    · have eV : spVal c v val (D + 1) t s.1 = spLf c v t s.1 := by rw [spVal_s]; unfold spV1; rw [if_neg (by omega), if_neg (by omega), if_neg (by omega)]
      have eO : spO 1 c v val (D + 1) t s.1 = spLo 1 c v t s.1 := by rw [spO_s]; unfold spO1; rw [if_neg (by omega), if_neg (by omega), if_neg (by omega)]
      have eU : spU c v val (D + 1) t s.1 = [] := by rw [spU_s]; unfold spU1; rw [if_neg (by omega), if_neg (by omega), if_neg (by omega)]
      rw [eV, eO, eU]
      exact Vr_leaf (m := m + 2 * D + 2) h X V S d0 (by omega) t0 (Or.inr hp) q0 q1 r
    · obtain ⟨s', e1, e2⟩ := Vr_el (n := m + 2 * D + 4) h X V S R d0 (by omega) t0 hp hT hM q0 q1 r
      exact ⟨s', Vr_dA X S t0 d0 (by omega) rz_b hp e1, e2⟩
    · cases val with
      | true =>
        obtain ⟨s', e1, e2⟩ := Vr_br (n := m + 2 * D + 3) h X V S R d0 (by omega) t0 hp hT hM q0 q1 r
        exact ⟨s', Vr_dU X S t0 d0 (by omega) rz_b hp e1, e2⟩
      | false =>
        obtain ⟨s', e1, e2⟩ := Vr_fb (n := m + 2 * D + 4) h (h78 rfl) X V S R d0 (by omega) t0 hp hT hM q0 q1 r
        exact ⟨s', Vr_dU X S t0 d0 (by omega) rz_b hp e1, e2⟩
    · obtain ⟨s', e1, e2⟩ := Vr_fl (n := m + 2 * D + 4) h X V S R d0 (by omega) t0 hp hT hM q0 q1 r
      exact ⟨s', Vr_dR X S t0 d0 (by omega) rz_b hp e1, e2⟩
