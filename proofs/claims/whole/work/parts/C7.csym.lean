def symP (c : Int → Int) (p : Int) (k : Nat) (y : Int) : Prop := ∃ j : Nat, j < k ∧ c (p + j) = y
theorem Sr_symDef {m : Nat} {g : ax_Hp} {K : Nat → Nat} {sr sc vr tr ti l : Nat} {c : Int → Int} {s : cS} {b : Int32} {p : Int} {k : Nat} (h : kOk K) (h78 : K 7 ≤ K 8) (X : srX g K sr sc vr) (V : cvX g K c) (S : csX g K sc tr ti l c) (q0 : 0 ≤ s.1) (q1 : s.1 ≤ K 7) (hb : bst b 97 (symP c p k)) (hk : ∀ j : Nat, j < k → isSm (c (p + j))) : ax_F (m + 3) 35 [ax_A (some sr), ax_I b] (cH g K s) = some (.inl (some (ax_I (Int32.ofInt (if spIx c p (c s.1) k < 0 then 0 else 1)))), cH g K (if spIx c p (c s.1) k < 0 then s else cEn (cAt s (s.1 + 1)) s.1 (s.1 + 1))) := by
  have k7 := h.2.1
  have pb := pk_b V q0
  rw [SchemaReader_readSymbolDefault_F]
  unfold SchemaReader_readSymbolDefault_b
  rw [sr_gr0 X, Option.bind_some, cu_on, pl_ci (Cu_pk h V q0 (by omega)), pl_ci (De_sbit pb.1 pb.2.1)]
  by_cases z : spIx c p (c s.1) k < 0
  · rw [if_pos z, if_pos z]
    have hn : ¬ symP c p k (c s.1) := fun ⟨j, j1, j2⟩ => by
      have := spIx_p (c := c) (p := p) (x := c s.1) k ⟨j, j1, j2⟩
      omega
    rw [if_pos (show b &&& (if isSm (pk K c s.1) then sbit 97 (pk K c s.1) else 0) = 0 from ?_)]
    · exact za_rz (v := 0) (Or.inl rfl)
    · by_cases w : isSm (pk K c s.1)
      · have e := pb.2.2.1 (fun y => by have := pb.2.2.2.1 y; omega)
        rw [if_pos w, e, sbit_and hb (by omega) (by omega)]
        exact hn
      · rw [if_neg w]; exact Int32.and_zero
  · obtain ⟨j, j1, j2⟩ := spIx_c (c := c) (p := p) (x := c s.1) k (by omega)
    have sm := hk j j1
    rw [j2] at sm
    have e := pb.2.2.1 (by omega)
    have q7 := pb.2.2.2.2.2 (by omega)
    rw [if_neg z, if_neg z, e, if_pos sm, if_neg (show ¬ b &&& sbit 97 (c s.1) = 0 from fun y => (sbit_and hb (by omega) (by omega)).mp y ⟨j, j1, j2⟩), sr_gr0 X, Option.bind_some, cu_on, pl_ci Cu_at, sr_gr0 X, Option.bind_some, cu_on, pl_cv (Cu_stepN h V q0 (by omega) (by omega)), sr_gr1 X, Option.bind_some, sr_gr0 X, Option.bind_some, cu_on, pl_ci Cu_at, sc_on S, cAt_1, pl_cv (Sc_markEnd (v := s.1 + 1) h S q0 (by omega)), if_pos (by omega)]
    exact za_rz (v := 1) (Or.inr rfl)
def symTl (n sr : Nat) (b : Int32) (H : ax_Hp) : ax_O :=
  if b = 0 then ax_rz 0 H
  else
    (ax_gr H (some sr) 4 0).bind fun v7 =>
    ax_on H v7 0 <| ax_ci (ax_F n 30 [ax_A v7, ax_I 61] H) fun v9 h8 =>
    if v9 = 0 then
      (ax_gr h8 (some sr) 4 0).bind fun v10 =>
      ax_on h8 v10 0 <| ax_ci (ax_F n 30 [ax_A v10, ax_I 41] h8) fun v12 h11 =>
      ax_rz v12 h11
    else
      ax_on h8 (some sr) 4 <| ax_ci (ax_F n 35 [ax_A (some sr), ax_I b] h8) fun v14 h13 =>
      if v14 = 0 then
        ax_rz 0 h13
      else
        (ax_gr h13 (some sr) 4 0).bind fun v15 =>
        ax_on h13 v15 0 <| ax_ci (ax_F n 30 [ax_A v15, ax_I 41] h13) fun v17 h16 =>
        ax_rz v17 h16
theorem cEn_1 (s : cS) (i v : Int) : (cEn s i v).1 = s.1 := rfl
theorem vE_f {s : cS} {p : Int} (hs : s.1 = p) (p0 : 0 ≤ p) : vEnd s (-1 - p) := by unfold vEnd; rw [if_neg (show ¬ 0 ≤ -1 - p by omega)]; omega
theorem vE_p {s : cS} {p : Int} (hs : s.1 = p) (p0 : 0 ≤ p) : vEnd s p := by unfold vEnd; rw [if_pos p0]; exact hs
theorem Sr_tail {m : Nat} {g : ax_Hp} {K : Nat → Nat} {sr sc vr tr ti l : Nat} {c : Int → Int} {s : cS} {b : Int32} {q : Int} (h : kOk K) (h78 : K 7 ≤ K 8) (X : srX g K sr sc vr) (V : cvX g K c) (S : csX g K sc tr ti l c) (q0 : 0 ≤ q) (hs : s.1 = q + 2 + spSy c (q + 2) 8 0) (q1 : s.1 ≤ K 7) (hE : c q = 69) (h40 : c (q + 1) = 40) (hb : bst b 97 (symP c (q + 2) (spSy c (q + 2) 8 0))) (hb0 : spSy c (q + 2) 8 0 = 0 → b = 0) : ∃ s', symTl (m + 3) sr b (cH g K s) = some (.inl (some (ax_I (Int32.ofInt (if 0 ≤ spE c q then 1 else 0)))), cH g K s') ∧ vEnd s' (spE c q) ∧ s'.2.2.2.2 = s.2.2.2.2 ∧ (0 ≤ spE c q → mkF s s' (q + 1) (spE c q) ∧ MkE s'.2.1 c q) := by
  have k7 := h.2.1
  have ksm := (spSy_k (c := c) (p := q + 2) 8 0).2.2
  unfold spE
  rw [if_pos h40]
  unfold MkE spEq
  have hkk : ∀ kk : Nat, kk = spSy c (q + 2) 8 0 → s.1 = q + 2 + kk := fun kk e => by rw [e]; exact hs
  generalize hK : spSy c (q + 2) 8 0 = kk at *
  unfold symTl
  by_cases c0 : kk = 0
  · rw [if_pos (hb0 c0), if_pos c0, if_neg (show ¬ 0 ≤ -1 - (q + 2) by omega)]
    exact ⟨s, za_rz (v := 0) (Or.inl rfl), vE_f (by omega) (by omega), rfl, fun z => absurd z (by omega)⟩
  · have sm0 := ksm 0 (by omega) (by omega)
    rw [if_neg (bst_n0 hb (x := c (q + 2 + ((0 : Nat) : Int))) (by omega) (by omega) ⟨0, by omega, rfl⟩), if_neg c0, sr_gr0 X, Option.bind_some, cu_on, show (61 : Int32) = Int32.ofInt 61 from rfl, pl_ci (Cu_take h V (by omega) (by omega) (by decide) (by decide)), ← hs]
    have vb := (V_lt V).2.2
    by_cases c1 : c s.1 = 61
    · rw [if_pos c1]
      simp only [if_pos c1]
      have q7 := vb s.1 (by omega)
      rw [if_neg (show ¬ Int32.ofInt 1 = 0 from by decide), sr_on X, pl_ci (Sr_symDef (k := kk) h h78 X V S (by show 0 ≤ s.1 + 1; omega) (by show s.1 + 1 ≤ _; omega) hb (fun j hj => ksm j (by omega) hj)), cAt_1]
      by_cases c2 : spIx c (q + 2) (c (s.1 + 1)) kk < 0
      · rw [if_pos c2]
        simp only [if_pos c2]
        rw [if_pos (show Int32.ofInt 0 = 0 from rfl), if_neg (show ¬ 0 ≤ -1 - (s.1 + 1) by omega)]
        exact ⟨cAt s (s.1 + 1), za_rz (v := 0) (Or.inl rfl), vE_f rfl (by omega), rfl, fun z => absurd z (by omega)⟩
      · rw [if_neg c2]
        simp only [if_neg c2]
        obtain ⟨j, j1, j2⟩ := spIx_c (c := c) (p := q + 2) (x := c (s.1 + 1)) kk (by omega)
        have sm := ksm j (by omega) j1
        have q8 := vb (s.1 + 1) (by omega)
        rw [if_neg (show ¬ Int32.ofInt 1 = 0 from by decide), sr_gr0 X, Option.bind_some, cu_on, show (41 : Int32) = Int32.ofInt 41 from rfl, pl_ci (Cu_take h V (by show 0 ≤ s.1 + 1 + 1; omega) (by show s.1 + 1 + 1 ≤ 1000; omega) (by decide) (by decide)), cEn_1, cAt_1, show s.1 + 1 + 1 = s.1 + 2 by omega]
        by_cases c3 : c (s.1 + 2) = 41
        · rw [if_pos c3]
          simp only [if_pos c3]
          rw [if_pos (show 0 ≤ s.1 + 3 by omega)]
          refine ⟨_, za_rz (v := 1) (Or.inr rfl), vE_p (by rw [cAt_1]; omega) (by omega), rfl, fun _ => ⟨fun i hi => ⟨?_, rfl, rfl⟩, fun _ _ => ?_⟩⟩
          · show (if i = (s.1 + 1).toNat then s.1 + 2 else s.2.1 i) = _
            rw [if_neg (by omega)]
          · show (if (s.1 + 1).toNat = (s.1 + 1).toNat then s.1 + 2 else _) = _
            rw [if_pos rfl]
        · rw [if_neg c3]
          simp only [if_neg c3]
          rw [if_neg (show ¬ 0 ≤ -1 - (s.1 + 2) by omega)]
          exact ⟨_, za_rz (v := 0) (Or.inl rfl), vE_f rfl (by omega), rfl, fun z => absurd z (by omega)⟩
    · rw [if_neg c1]
      simp only [if_neg c1]
      rw [if_pos (show Int32.ofInt 0 = 0 from rfl), sr_gr0 X, Option.bind_some, cu_on, show (41 : Int32) = Int32.ofInt 41 from rfl, pl_ci (Cu_take h V (by omega) (by omega) (by decide) (by decide))]
      by_cases c3 : c s.1 = 41
      · rw [if_pos c3]
        simp only [if_pos c3]
        rw [if_pos (show 0 ≤ s.1 + 1 by omega)]
        exact ⟨_, za_rz (v := 1) (Or.inr rfl), vE_p rfl (by omega), rfl, fun _ => ⟨mkF_0 rfl _ _, fun _ z => absurd z c1⟩⟩
      · rw [if_neg c3]
        simp only [if_neg c3]
        rw [if_neg (show ¬ 0 ≤ -1 - s.1 by omega)]
        exact ⟨_, za_rz (v := 0) (Or.inl rfl), vE_f rfl (by omega), rfl, fun z => absurd z (by omega)⟩
theorem Sr_symL {m : Nat} {g : ax_Hp} {K : Nat → Nat} {sr sc vr tr ti l : Nat} {c : Int → Int} {q : Int} (h : kOk K) (h78 : K 7 ≤ K 8) (X : srX g K sr sc vr) (V : cvX g K c) (S : csX g K sc tr ti l c) (q0 : 0 ≤ q) (hE : c q = 69) (h40 : c (q + 1) = 40) : ∀ (f k : Nat) (s : cS) (b : Int32) (fuel : Nat), k + f = 8 → spSy c (q + 2) f k = spSy c (q + 2) 8 0 → s.1 = q + 2 + k → s.1 ≤ K 7 → bst b 97 (symP c (q + 2) k) → (k = 0 → b = 0) → f < fuel → ∃ s', SchemaReader_readSymbols_lp30 (ax_F (m + 3)) fuel (some sr) b (Int32.ofInt k) (cH g K s) = some (.inl (some (ax_I (Int32.ofInt (if 0 ≤ spE c q then 1 else 0)))), cH g K s') ∧ vEnd s' (spE c q) ∧ s'.2.2.2.2 = s.2.2.2.2 ∧ (0 ≤ spE c q → mkF s s' (q + 1) (spE c q) ∧ MkE s'.2.1 c q) := by
  have k7 := h.2.1
  intro f
  induction f with
  | zero =>
    intro k s b fuel hk hy hs q1 hb hb0 hf
    obtain ⟨fuel, rfl⟩ : ∃ g, fuel = g + 1 := ⟨fuel - 1, by omega⟩
    have hstep : SchemaReader_readSymbols_lp30 (ax_F (m + 3)) (fuel + 1) = SchemaReader_readSymbols_bd30 (ax_F (m + 3)) (SchemaReader_readSymbols_lp30 (ax_F (m + 3)) fuel) := rfl
    have hy' : k = spSy c (q + 2) 8 0 := hy
    rw [hstep]
    unfold SchemaReader_readSymbols_bd30
    rw [if_pos (show (8 : Int32) ≤ Int32.ofInt k from by rw [show (8 : Int32) = Int32.ofInt 8 from rfl, zi_le (by omega) (by omega) (by omega) (by omega)]; omega)]
    rw [hy'] at hs hb hb0
    exact Sr_tail (m := m) h h78 X V S q0 hs q1 hE h40 hb hb0
  | succ f ih =>
    intro k s b fuel hk hy hs q1 hb hb0 hf
    obtain ⟨fuel, rfl⟩ : ∃ g, fuel = g + 1 := ⟨fuel - 1, by omega⟩
    have hstep : SchemaReader_readSymbols_lp30 (ax_F (m + 3)) (fuel + 1) = SchemaReader_readSymbols_bd30 (ax_F (m + 3)) (SchemaReader_readSymbols_lp30 (ax_F (m + 3)) fuel) := rfl
    have pb := pk_b V (q := s.1) (by omega)
    rw [hstep]
    unfold SchemaReader_readSymbols_bd30
    rw [if_neg (show ¬ (8 : Int32) ≤ Int32.ofInt k from by rw [show (8 : Int32) = Int32.ofInt 8 from rfl, zi_le (by omega) (by omega) (by omega) (by omega)]; omega), sr_gr0 X, Option.bind_some, cu_on, pl_ci (Cu_pk h V (by omega) (by omega)), pl_ci (De_sbit pb.1 pb.2.1)]
    rw [spSy_s, ← hs] at hy
    by_cases c1 : isSm (c s.1)
    · have e := pb.2.2.1 (by omega)
      have q7 := pb.2.2.2.2.2 (by omega)
      rw [e, if_pos c1, if_neg (sbit_n0 (by omega) (by omega))]
      by_cases c2 : ∀ j : Nat, j < k → c (q + 2 + j) ≠ c s.1
      · rw [if_pos ⟨c1, c2⟩] at hy
        rw [if_pos ((sbit_and hb (by omega) (by omega)).mpr (fun ⟨j, j1, j2⟩ => c2 j j1 j2)), sr_gr0 X, Option.bind_some, cu_on, pl_cv (Cu_stepN h V (by omega) (by omega) (by omega)), show (1 : Int32) = Int32.ofInt 1 from rfl, zi_add]
        have B := bst_of (Q := symP c (q + 2) (k + 1)) (sbit_or hb (x := c s.1) (by omega) (by omega)) (fun y => by
          constructor
          · rintro (z | ⟨j, j1, j2⟩)
            · exact ⟨k, by omega, by rw [z, hs]⟩
            · exact ⟨j, by omega, j2⟩
          · rintro ⟨j, j1, j2⟩
            by_cases w : j = k
            · exact Or.inl (by rw [← j2, w, hs])
            · exact Or.inr ⟨j, by omega, j2⟩)
        exact ih (k + 1) (cAt s (s.1 + 1)) _ fuel (by omega) hy (by rw [cAt_1]; omega) (by rw [cAt_1]; omega) B (fun z => absurd z (by omega)) (by omega)
      · rw [if_neg (fun z => c2 z.2)] at hy
        rw [if_neg (show ¬ b &&& sbit 97 (c s.1) = 0 from fun z => c2 (fun j j1 j2 => (sbit_and hb (by omega) (by omega)).mp z ⟨j, j1, j2⟩))]
        rw [hy] at hs hb hb0
        exact Sr_tail (m := m) h h78 X V S q0 hs q1 hE h40 hb hb0
    · rw [if_neg (fun z => c1 z.1)] at hy
      rw [if_neg (show ¬ isSm (pk K c s.1) from fun z => c1 (by rw [← pb.2.2.1 (fun y => by have := pb.2.2.2.1 y; omega)]; exact z)), if_pos rfl]
      rw [hy] at hs hb hb0
      exact Sr_tail (m := m) h h78 X V S q0 hs q1 hE h40 hb hb0
theorem Sr_sym {m : Nat} {g : ax_Hp} {K : Nat → Nat} {sr sc vr tr ti l : Nat} {c : Int → Int} {s : cS} (h : kOk K) (h78 : K 7 ≤ K 8) (X : srX g K sr sc vr) (V : cvX g K c) (S : csX g K sc tr ti l c) (q0 : 0 ≤ s.1) (q1 : s.1 ≤ K 7) (hE : c s.1 = 69) : ∃ s', ax_F (m + 4) 31 [ax_A (some sr)] (cH g K s) = some (.inl (some (ax_I (Int32.ofInt (if 0 ≤ spE c s.1 then 1 else 0)))), cH g K s') ∧ vEnd s' (spE c s.1) ∧ s'.2.2.2.2 = s.2.2.2.2 ∧ (0 ≤ spE c s.1 → mkF s s' (s.1 + 1) (spE c s.1) ∧ MkE s'.2.1 c s.1) := by
  have k7 := h.2.1
  have vb := (V_lt V).2.2
  have q7 := vb s.1 (by omega)
  rw [SchemaReader_readSymbols_F]
  unfold SchemaReader_readSymbols_b
  rw [sr_gr0 X, Option.bind_some, cu_on, show (69 : Int32) = Int32.ofInt 69 from rfl, pl_ci (Cu_take h V q0 (by omega) (by decide) (by decide)), if_pos hE, if_pos hE, if_neg (show ¬ Int32.ofInt 1 = 0 from by decide), sr_gr0 X, Option.bind_some, cu_on, show (40 : Int32) = Int32.ofInt 40 from rfl, pl_ci (Cu_take h V (by show 0 ≤ s.1 + 1; omega) (by show s.1 + 1 ≤ 1000; omega) (by decide) (by decide)), cAt_1]
  by_cases c1 : c (s.1 + 1) = 40
  · have q8 := vb (s.1 + 1) (by omega)
    simp only [if_pos c1]
    rw [if_neg (show ¬ Int32.ofInt 1 = 0 from by decide)]
    exact Sr_symL (m := m) h h78 X V S q0 hE c1 8 0 (cAt (cAt s (s.1 + 1)) (s.1 + 1 + 1)) 0 ax_fuel (by omega) rfl (by rw [cAt_1]; omega) (by rw [cAt_1]; omega) (bst_0 (fun y ⟨j, j1, _⟩ => absurd j1 (Nat.not_lt_zero _))) (fun _ => rfl) (by unfold ax_fuel; omega)
  · simp only [if_neg c1]
    have eE : spE c s.1 = -1 - (s.1 + 1) := by unfold spE; rw [if_neg c1]
    rw [if_pos (show Int32.ofInt 0 = 0 from rfl), eE, if_neg (show ¬ 0 ≤ -1 - (s.1 + 1) by omega)]
    exact ⟨cAt s (s.1 + 1), za_rz (v := 0) (Or.inl rfl), vE_f rfl (by omega), rfl, fun z => absurd z (by omega)⟩
