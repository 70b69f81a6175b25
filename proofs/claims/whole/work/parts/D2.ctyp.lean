def kPost (c : Int → Int) (D : Nat) (s s' : cS) (e : Int) : Prop := vEnd s' e ∧ (0 ≤ e → s'.2.2.2.2 = s.2.2.2.2 ∧ mkF s s' (s.1 + 1) e ∧ mkBs s' c D s.1)
theorem mkBs_pl {s : cS} {c : Int → Int} {D : Nat} {t : Int} (h : isPl (c t)) : mkBs s c D t := by
  have hE : MkE s.2.1 c t := fun z => by omega
  cases D with
  | zero => exact hE
  | succ D => exact ⟨hE, fun z => by omega, fun z => by omega, fun z => by omega⟩
theorem mkBs_E {s : cS} {c : Int → Int} {D : Nat} {t : Int} (h : c t = 69) (hE : MkE s.2.1 c t) : mkBs s c D t := by
  cases D with
  | zero => exact hE
  | succ D => exact ⟨hE, fun z => by omega, fun z => by omega, fun z => by omega⟩
/-- the end is marked behind the kind's reading -/
theorem Sr_rt {n : Nat} {g : ax_Hp} {K : Nat → Nat} {sr sc vr tr ti l : Nat} {c : Int → Int} {s s1 : cS} {dep : Int} {D : Nat} (h : kOk K) (h78 : K 7 ≤ K 8) (X : srX g K sr sc vr) (V : cvX g K c) (S : csX g K sc tr ti l c) (q0 : 0 ≤ s.1) (q1 : s.1 ≤ K 7) (e1 : ax_F (n + 1) 28 [ax_A (some sr), ax_I (Int32.ofInt dep)] (cH g K s) = some (.inl (some (ax_I (Int32.ofInt (if 0 ≤ spTy c D s.1 then 1 else 0)))), cH g K s1)) (e2 : kPost c D s s1 (spTy c D s.1)) : ∃ s', ax_F (n + 2) 26 [ax_A (some sr), ax_I (Int32.ofInt dep)] (cH g K s) = some (.inl (some (ax_I (Int32.ofInt (if 0 ≤ spTy c D s.1 then 1 else 0)))), cH g K s') ∧ tPost c D s s' (spTy c D s.1) := by
  have k7 := h.2.1
  have hc := (V_lt V).1
  rw [SchemaReader_readType_F]
  unfold SchemaReader_readType_b
  rw [sr_gr0 X, Option.bind_some, cu_on, pl_ci Cu_at, sr_on X, pl_ci e1]
  obtain ⟨a1, a2⟩ := e2
  by_cases z : 0 ≤ spTy c D s.1
  · obtain ⟨b1, b2, b3⟩ := a2 z
    have g := spTy_gt hc D s.1 q0 z
    have sE : s1.1 = spTy c D s.1 := by unfold vEnd at a1; rw [if_pos z] at a1; exact a1
    simp only [if_pos z]
    rw [if_neg (show ¬ Int32.ofInt 1 = 0 from by decide), sr_gr1 X, Option.bind_some, sr_gr0 X, Option.bind_some, cu_on, pl_ci Cu_at, sc_on S, sE, pl_cv (Sc_markEnd h S q0 (by omega)), if_pos (by omega)]
    have fM : mkF s1 (cEn s1 s.1 (spTy c D s.1)) s.1 (s.1 + 1) := fun i hi => ⟨by show (if i = s.1.toNat then _ else _) = _; rw [if_neg (by omega)], rfl, rfl⟩
    refine ⟨_, za_rz (v := 1) (Or.inr rfl), vE_p sE z, fun _ => ⟨b1, ?_, ?_, ?_, ?_⟩⟩
    · exact (mkF_le (a' := s.1) (b' := spTy c D s.1) b2 (by omega) (by omega)).trans (mkF_le (a' := s.1) (b' := spTy c D s.1) fM (by omega) (by omega)) (by omega) (by omega)
    · exact (b2 s.1.toNat (by omega)).2.1
    · show (if s.1.toNat = s.1.toNat then _ else _) = _
      rw [if_pos rfl]
    · exact mkBs_fr (N := K 7) (by omega) hc q0 z fM (by omega) b3
  · simp only [if_neg z]
    rw [if_pos (show Int32.ofInt 0 = 0 from rfl)]
    exact ⟨s1, za_rz (v := 0) (Or.inl rfl), a1, fun w => absurd w z⟩
theorem Sr_brs {n : Nat} {g : ax_Hp} {K : Nat → Nat} {sr sc vr tr ti l : Nat} {c : Int → Int} {s : cS} {dep : Int} {D : Nat} (h : kOk K) (h78 : K 7 ≤ K 8) (X : srX g K sr sc vr) (V : cvX g K c) (S : csX g K sc tr ti l c) (R : rdT g K sr c (n + 1) D) (d0 : 0 ≤ dep) (d1 : dep + 1 + D = 6) (q0 : 0 ≤ s.1) (q1 : s.1 ≤ K 7) (fr : frs s s.1) (z0 : s.2.2.2.2.1 = 0) (hk : c s.1 = 85) : ∃ s', ax_F (n + 2) 37 [ax_A (some sr), ax_I (Int32.ofInt dep)] (cH g K s) = some (.inl (some (ax_I (Int32.ofInt (if 0 ≤ spTy c (D + 1) s.1 then 1 else 0)))), cH g K s') ∧ kPost c (D + 1) s s' (spTy c (D + 1) s.1) := by
  have k7 := h.2.1
  have vb := (V_lt V).2.2
  have q7 := vb s.1 (by omega)
  rw [SchemaReader_readBranches_F]
  unfold SchemaReader_readBranches_b
  rw [sr_gr0 X, Option.bind_some, cu_on, show (85 : Int32) = Int32.ofInt 85 from rfl, pl_ci (Cu_take h V q0 (by omega) (by decide) (by decide)), if_pos hk, if_pos hk, if_neg (show ¬ Int32.ofInt 1 = 0 from by decide), sr_gr0 X, Option.bind_some, cu_on, show (40 : Int32) = Int32.ofInt 40 from rfl, pl_ci (Cu_take h V (by show 0 ≤ s.1 + 1; omega) (by show s.1 + 1 ≤ 1000; omega) (by decide) (by decide)), cAt_1]
  have eT := spTy_U (D := D) hk
  by_cases c1 : c (s.1 + 1) = 40
  · have q8 := vb (s.1 + 1) (by omega)
    rw [if_pos c1] at eT
    simp only [if_pos c1]
    rw [if_neg (show ¬ Int32.ofInt 1 = 0 from by decide), pl_ci (De_cbit (x := 85) (by decide) (by decide)), if_pos (show isCa 85 from by decide), eT]
    have B := sbit_or (b := 0) (base := 65) (x := 85) (P := fun _ => False) (bst_0 (fun _ z => z)) (by decide) (by decide)
    rw [Int32.zero_or] at B
    have B2 := bst_of (Q := fun y => y = 85 ∨ y ∈ ([] : List Int)) B (fun y => by rw [List.mem_nil_iff])
    have L := Sr_brL (n := n) (D := D) h h78 X V S R d0 d1 4 [] (cAt (cAt s (s.1 + 1)) (s.1 + 1 + 1)) (sbit 65 85) ax_fuel rfl (by rw [cAt_1]; omega) (by rw [cAt_1]; omega) (fun i hi => fr i (by rw [cAt_1] at hi; omega)) z0 B2 (by unfold ax_fuel; omega)
    rw [cAt_1, show s.1 + 1 + 1 = s.1 + 2 by omega] at L
    rw [show s.1 + 1 + 1 = s.1 + 2 by omega]
    obtain ⟨s', y1, y2, y3⟩ := L
    refine ⟨s', y1, y2, fun z => ?_⟩
    obtain ⟨w0, w1, w2, w3⟩ := y3 z
    obtain ⟨_, _, p3⟩ := spTy_U1 (D := D) q0 (by rw [eT]; exact z) hk
    refine ⟨w0, fun i hi => w1 i (by omega), fun y => by omega, fun y => by omega, fun _ => ?_, fun y => by omega⟩
    rw [p3]
    exact ⟨w2, w3⟩
  · rw [if_neg c1] at eT
    simp only [if_neg c1]
    rw [if_pos (show Int32.ofInt 0 = 0 from rfl), eT, if_neg (show ¬ 0 ≤ -1 - (s.1 + 1) by omega)]
    exact ⟨cAt s (s.1 + 1), za_rz (v := 0) (Or.inl rfl), vE_f rfl (by omega), fun z => absurd z (by omega)⟩
theorem Sr_fls {n : Nat} {g : ax_Hp} {K : Nat → Nat} {sr sc vr tr ti l : Nat} {c : Int → Int} {s : cS} {dep : Int} {D : Nat} (h : kOk K) (h78 : K 7 ≤ K 8) (h9 : K 9 = 0) (X : srX g K sr sc vr) (Y : vrX g K vr sc false) (V : cvX g K c) (S : csX g K sc tr ti l c) (R : rdT g K sr c (n + 1) D) (P : rdP g K vr c c false n D) (d0 : 0 ≤ dep) (d1 : dep + 1 + D = 6) (q0 : 0 ≤ s.1) (q1 : s.1 ≤ K 7) (fr : frs s s.1) (z0 : s.2.2.2.2.1 = 0) (hk : c s.1 = 82) : ∃ s', ax_F (n + 3) 40 [ax_A (some sr), ax_I (Int32.ofInt dep)] (cH g K s) = some (.inl (some (ax_I (Int32.ofInt (if 0 ≤ spTy c (D + 1) s.1 then 1 else 0)))), cH g K s') ∧ kPost c (D + 1) s s' (spTy c (D + 1) s.1) := by
  have k7 := h.2.1
  have vb := (V_lt V).2.2
  have q7 := vb s.1 (by omega)
  rw [SchemaReader_readFields_F]
  unfold SchemaReader_readFields_b
  rw [sr_gr0 X, Option.bind_some, cu_on, show (82 : Int32) = Int32.ofInt 82 from rfl, pl_ci (Cu_take h V q0 (by omega) (by decide) (by decide)), if_pos hk, if_pos hk, if_neg (show ¬ Int32.ofInt 1 = 0 from by decide), sr_gr0 X, Option.bind_some, cu_on, show (40 : Int32) = Int32.ofInt 40 from rfl, pl_ci (Cu_take h V (by show 0 ≤ s.1 + 1; omega) (by show s.1 + 1 ≤ 1000; omega) (by decide) (by decide)), cAt_1]
  have eT := spTy_R (D := D) hk
  by_cases c1 : c (s.1 + 1) = 40
  · have q8 := vb (s.1 + 1) (by omega)
    rw [if_pos c1] at eT
    simp only [if_pos c1]
    rw [if_neg (show ¬ Int32.ofInt 1 = 0 from by decide), eT]
    have L := Sr_flL (n := n) (D := D) h h78 h9 X Y V S R P d0 d1 6 [] (cAt (cAt s (s.1 + 1)) (s.1 + 1 + 1)) 0 ax_fuel rfl (by rw [cAt_1]; omega) (by rw [cAt_1]; omega) (fun i hi => fr i (by rw [cAt_1] at hi; omega)) z0 (bst_0 (fun y z => absurd z (List.not_mem_nil))) (by unfold ax_fuel; omega)
    rw [cAt_1, show s.1 + 1 + 1 = s.1 + 2 by omega] at L
    rw [show s.1 + 1 + 1 = s.1 + 2 by omega]
    obtain ⟨s', y1, y2, y3⟩ := L
    refine ⟨s', y1, y2, fun z => ?_⟩
    obtain ⟨w0, w1, w2, w3⟩ := y3 z
    obtain ⟨_, _, p3⟩ := spTy_R1 (D := D) q0 (by rw [eT]; exact z) hk
    refine ⟨w0, fun i hi => w1 i (by omega), fun y => by omega, fun y => by omega, fun y => by omega, fun _ => ?_⟩
    rw [p3]
    exact ⟨w2, w3⟩
  · rw [if_neg c1] at eT
    simp only [if_neg c1]
    rw [if_pos (show Int32.ofInt 0 = 0 from rfl), eT, if_neg (show ¬ 0 ≤ -1 - (s.1 + 1) by omega)]
    exact ⟨cAt s (s.1 + 1), za_rz (v := 0) (Or.inl rfl), vE_f rfl (by omega), fun z => absurd z (by omega)⟩
/-- kinds that hold no other -/
theorem Sr_leaf {m : Nat} {g : ax_Hp} {K : Nat → Nat} {sr sc vr tr ti l : Nat} {c : Int → Int} {s : cS} {dep : Int} {D : Nat} (h : kOk K) (h78 : K 7 ≤ K 8) (X : srX g K sr sc vr) (V : cvX g K c) (S : csX g K sc tr ti l c) (d0 : 0 ≤ dep) (d1 : dep + D = 6) (q0 : 0 ≤ s.1) (q1 : s.1 ≤ K 7) (hn : D = 0 ∨ ¬ isHo (c s.1)) : ∃ s', ax_F (m + 5) 28 [ax_A (some sr), ax_I (Int32.ofInt dep)] (cH g K s) = some (.inl (some (ax_I (Int32.ofInt (if 0 ≤ spTy c D s.1 then 1 else 0)))), cH g K s') ∧ kPost c D s s' (spTy c D s.1) := by
  have no : ∀ (e : ax_F (m + 5) 28 [ax_A (some sr), ax_I (Int32.ofInt dep)] (cH g K s) = some (.inl (some (ax_I (Int32.ofInt 0))), cH g K s)), spTy c D s.1 = -1 - s.1 → ∃ s', ax_F (m + 5) 28 [ax_A (some sr), ax_I (Int32.ofInt dep)] (cH g K s) = some (.inl (some (ax_I (Int32.ofInt (if 0 ≤ spTy c D s.1 then 1 else 0)))), cH g K s') ∧ kPost c D s s' (spTy c D s.1) := by
    intro e eT
    rw [eT, if_neg (show ¬ 0 ≤ -1 - s.1 by omega)]
    exact ⟨s, e, vE_f rfl q0, fun z => absurd z (by omega)⟩
  have pl : ∀ (e : ax_F (m + 5) 28 [ax_A (some sr), ax_I (Int32.ofInt dep)] (cH g K s) = some (.inl (some (ax_I (Int32.ofInt 1))), cH g K (cAt s (s.1 + 1)))), isPl (c s.1) → ∃ s', ax_F (m + 5) 28 [ax_A (some sr), ax_I (Int32.ofInt dep)] (cH g K s) = some (.inl (some (ax_I (Int32.ofInt (if 0 ≤ spTy c D s.1 then 1 else 0)))), cH g K s') ∧ kPost c D s s' (spTy c D s.1) := by
    intro e hp
    rw [spTy_pl hp, if_pos (show 0 ≤ s.1 + 1 by omega)]
    exact ⟨_, e, vE_p rfl (by omega), fun _ => ⟨rfl, mkF_0 rfl _ _, mkBs_pl hp⟩⟩
  by_cases hp : isPl (c s.1)
  · rcases hp with e | e | e | e | e
    · exact pl (Sr_kN h X V q0 q1 d0 (by omega) e) (Or.inl e)
    · exact pl (Sr_kB h X V q0 q1 d0 (by omega) e) (Or.inr (Or.inl e))
    · exact pl (Sr_kI h X V q0 q1 d0 (by omega) e) (Or.inr (Or.inr (Or.inl e)))
    · exact pl (Sr_kL h X V q0 q1 d0 (by omega) e) (Or.inr (Or.inr (Or.inr (Or.inl e))))
    · exact pl (Sr_kS h X V q0 q1 d0 (by omega) e) (Or.inr (Or.inr (Or.inr (Or.inr e))))
  · by_cases hE : c s.1 = 69
    · obtain ⟨s', y1, y2, y3, y4⟩ := Sr_sym (m := m) h h78 X V S q0 q1 hE
      rw [spTy_E1 hE]
      refine ⟨s', Sr_kE h X V q0 q1 d0 (by omega) rz_b hE y1, y2, fun z => ⟨y3, (y4 z).1, mkBs_E hE (y4 z).2⟩⟩
    · have hno : ¬ isPe (c s.1) := fun z => z.elim hp hE
      by_cases hH : isHo (c s.1)
      · have hD : D = 0 := hn.elim id (fun z => absurd hH z)
        have eT : spTy c D s.1 = -1 - s.1 := spTy_no hno (Or.inl hD)
        rcases hH with e | e | e
        · exact no (Sr_nA h X V q0 q1 d0 (by omega) (by omega) e) eT
        · exact no (Sr_nU h X V q0 q1 d0 (by omega) (by omega) e) eT
        · exact no (Sr_nR h X V q0 q1 d0 (by omega) (by omega) e) eT
      · exact no (Sr_no h X V q0 q1 d0 (by omega) ⟨hno, hH⟩) (spTy_no hno (Or.inr hH))
/-- the class reads schemas as the text says -/
theorem Sr_all {g : ax_Hp} {K : Nat → Nat} {sr sc vr tr ti l : Nat} {c : Int → Int} (h : kOk K) (h78 : K 7 ≤ K 8) (h9 : K 9 = 0) (X : srX g K sr sc vr) (Y : vrX g K vr sc false) (V : cvX g K c) (S : csX g K sc tr ti l c) : ∀ (D m : Nat), rdT g K sr c (m + 4 * D + 8) D
  | 0, m => fun s dep d0 d1 q0 q1 fr z0 => by
    obtain ⟨s1, e1, e2⟩ := Sr_leaf (m := m + 2) (D := 0) h h78 X V S d0 d1 q0 q1 (Or.inl rfl)
    exact Sr_rt (n := m + 6) h h78 X V S q0 q1 e1 e2
  | D + 1, m => fun s dep d0 d1 q0 q1 fr z0 => by
    have R := Sr_all h h78 h9 X Y V S D
    have vb := (V_lt V).2.2
    rw [show m + 4 * (D + 1) + 8 = m + 4 * D + 10 + 2 by omega]
    by_cases hH : isHo (c s.1)
    · rcases hH with e | e | e
      · have q7 := vb s.1 (by omega)
        obtain ⟨s1, a1, a2, a4⟩ := R (m + 2) (cAt s (s.1 + 1)) (dep + 1) (by omega) (by omega) (by rw [cAt_1]; omega) (by rw [cAt_1]; omega) (fun i hi => fr i (by rw [cAt_1] at hi; omega)) z0
        rw [cAt_1, ← spTy_A e] at a1 a2 a4
        refine Sr_rt (n := m + 4 * D + 10) h h78 X V S q0 q1 (Sr_kA (n := m + 4 * D + 9) h X V q0 q1 d0 (by omega) (by omega) rz_b e (by rw [show m + 4 * D + 9 + 1 = m + 2 + 4 * D + 8 by omega]; exact a1)) ⟨a2, fun z => ?_⟩
        obtain ⟨w0, w1, w2, w3, w4⟩ := a4 z
        exact ⟨w0, w1, fun y => by omega, fun _ => ⟨by rw [← spTy_A e]; exact w3, w4⟩, fun y => by omega, fun y => by omega⟩
      · obtain ⟨s1, e1, e2⟩ := Sr_brs (n := m + 4 * D + 8) h h78 X V S (by rw [show m + 4 * D + 8 + 1 = m + 1 + 4 * D + 8 by omega]; exact R (m + 1)) d0 (by omega) q0 q1 fr z0 e
        exact Sr_rt (n := m + 4 * D + 10) h h78 X V S q0 q1 (Sr_kU (n := m + 4 * D + 9) h X V q0 q1 d0 (by omega) (by omega) rz_b e e1) e2
      · have P := Vr_all (val := false) h (fun _ => h78) Y V S D (m + 2 * D + 2)
        obtain ⟨s1, e1, e2⟩ := Sr_fls (n := m + 4 * D + 7) h h78 h9 X Y V S (R m) (by rw [show m + 4 * D + 7 = m + 2 * D + 2 + 2 * D + 5 by omega]; exact P) d0 (by omega) q0 q1 fr z0 e
        exact Sr_rt (n := m + 4 * D + 10) h h78 X V S q0 q1 (Sr_kR (n := m + 4 * D + 9) h X V q0 q1 d0 (by omega) (by omega) rz_b e e1) e2
    · obtain ⟨s1, e1, e2⟩ := Sr_leaf (m := m + 4 * D + 6) (D := D + 1) h h78 X V S d0 d1 q0 q1 (Or.inr hH)
      exact Sr_rt (n := m + 4 * D + 10) h h78 X V S q0 q1 e1 e2
def cClr (s : cS) : cS := (s.1, fun _ => -1, fun _ => -1, fun _ => 0, s.2.2.2.2)
theorem Sc_clear {m : Nat} {g : ax_Hp} {K : Nat → Nat} {sc tr ti l : Nat} {c : Int → Int} {s : cS} (h : kOk K) (S : csX g K sc tr ti l c) : ax_F (m + 2) 24 [ax_A (some sc)] (cH g K s) = some (.inl none, cH g K (cClr s)) := by
  have k8 := h.2.2.1
  rw [Schema_clearMarks_e ((cH_o S.2.1).trans S.1) (cH_k1 g h s) (cH_k2 g h s) (cH_k3 g h s) (by omega) (S.2.1 1 (by decide)) (S.2.1 2 (by decide)) (kne h (by decide) (by decide) (by decide)) (kne h (by decide) (by decide) (by decide)) (kne h (by decide) (by decide) (by decide))]
  have t1 : ax_set (cH g K s) (K 1) (.inr (1, arL (K 8) (fun _ => -1))) = cH g K (s.1, fun _ => -1, s.2.2) := by
    refine cH_set h s (s.1, fun _ => -1, s.2.2) 1 (by decide) _ (cH_k1 g h _) (c6 (fun _ => ?_) (fun z => absurd rfl z) (fun _ => ?_) (fun _ => ?_) (fun _ => ?_) (fun _ => ?_))
    all_goals first | (rw [cH_k0 g, cH_k0 g]; done) | (rw [cH_k0 g, cH_k0 g]; rfl) | (rw [cH_k1 g h, cH_k1 g h]; done) | (rw [cH_k1 g h, cH_k1 g h]; rfl) | (rw [cH_k2 g h, cH_k2 g h]; done) | (rw [cH_k2 g h, cH_k2 g h]; rfl) | (rw [cH_k3 g h, cH_k3 g h]; done) | (rw [cH_k3 g h, cH_k3 g h]; rfl) | (rw [cH_k4 g h, cH_k4 g h]; done) | (rw [cH_k4 g h, cH_k4 g h]; rfl) | (rw [cH_k5 g h, cH_k5 g h]; done) | (rw [cH_k5 g h, cH_k5 g h]; rfl)
  have t2 : ax_set (cH g K (s.1, fun _ => -1, s.2.2)) (K 2) (.inr (1, arL (K 8) (fun _ => -1))) = cH g K (s.1, fun _ => -1, fun _ => -1, s.2.2.2) := by
    refine cH_set h (s.1, fun _ => -1, s.2.2) (s.1, fun _ => -1, fun _ => -1, s.2.2.2) 2 (by decide) _ (cH_k2 g h _) (c6 (fun _ => ?_) (fun _ => ?_) (fun z => absurd rfl z) (fun _ => ?_) (fun _ => ?_) (fun _ => ?_))
    all_goals first | (rw [cH_k0 g, cH_k0 g]; done) | (rw [cH_k0 g, cH_k0 g]; rfl) | (rw [cH_k1 g h, cH_k1 g h]; done) | (rw [cH_k1 g h, cH_k1 g h]; rfl) | (rw [cH_k2 g h, cH_k2 g h]; done) | (rw [cH_k2 g h, cH_k2 g h]; rfl) | (rw [cH_k3 g h, cH_k3 g h]; done) | (rw [cH_k3 g h, cH_k3 g h]; rfl) | (rw [cH_k4 g h, cH_k4 g h]; done) | (rw [cH_k4 g h, cH_k4 g h]; rfl) | (rw [cH_k5 g h, cH_k5 g h]; done) | (rw [cH_k5 g h, cH_k5 g h]; rfl)
  have t3 : ax_set (cH g K (s.1, fun _ => -1, fun _ => -1, s.2.2.2)) (K 3) (.inr (1, arL (K 8) (fun _ => 0))) = cH g K (cClr s) := by
    refine cH_set h (s.1, fun _ => -1, fun _ => -1, s.2.2.2) (cClr s) 3 (by decide) _ (cH_k3 g h _) (c6 (fun _ => ?_) (fun _ => ?_) (fun _ => ?_) (fun z => absurd rfl z) (fun _ => ?_) (fun _ => ?_))
    all_goals first | (rw [cH_k0 g, cH_k0 g]; done) | (rw [cH_k0 g, cH_k0 g]; rfl) | (rw [cH_k1 g h, cH_k1 g h]; done) | (rw [cH_k1 g h, cH_k1 g h]; rfl) | (rw [cH_k2 g h, cH_k2 g h]; done) | (rw [cH_k2 g h, cH_k2 g h]; rfl) | (rw [cH_k3 g h, cH_k3 g h]; done) | (rw [cH_k3 g h, cH_k3 g h]; rfl) | (rw [cH_k4 g h, cH_k4 g h]; done) | (rw [cH_k4 g h, cH_k4 g h]; rfl) | (rw [cH_k5 g h, cH_k5 g h]; done) | (rw [cH_k5 g h, cH_k5 g h]; rfl)
  rw [t1, t2, t3]
/-- the whole text is a schema: the answer, and where the cursor stands -/
theorem Sr_whole {m : Nat} {g : ax_Hp} {K : Nat → Nat} {sr sc vr tr ti l : Nat} {c : Int → Int} {s : cS} (h : kOk K) (h78 : K 7 ≤ K 8) (h9 : K 9 = 0) (X : srX g K sr sc vr) (Y : vrX g K vr sc false) (V : cvX g K c) (S : csX g K sc tr ti l c) (q0 : s.1 = 0) (z0 : s.2.2.2.2.1 = 0) : ∃ s', ax_F (m + 33) 23 [ax_A (some sr)] (cH g K s) = some (.inl (some (ax_I (Int32.ofInt (if spTy c 6 0 = K 7 then 1 else 0)))), cH g K s') ∧ vEnd s' (spTy c 6 0) ∧ (spTy c 6 0 = K 7 → s'.2.1 0 = K 7 ∧ mkBs s' c 6 0) := by
  have k7 := h.2.1
  have hc := (V_lt V).1
  obtain ⟨s1, a1, a2, a4⟩ := Sr_all h h78 h9 X Y V S 6 m (cClr s) 0 (by omega) (by omega) (by show 0 ≤ s.1; omega) (by show s.1 ≤ _; omega) (fun i _ => ⟨rfl, rfl⟩) z0
  rw [show (cClr s).1 = 0 from q0] at a1 a2 a4
  have b := spTy_b hc 6 0 (by omega) (by omega)
  unfold bd at b
  rw [SchemaReader_readWhole_F]
  unfold SchemaReader_readWhole_b
  rw [sr_gr1 X, Option.bind_some, sc_on S, pl_cv (Sc_clear h S), sr_on X, zi_0, pl_ci a1]
  refine ⟨s1, ?_, a2, fun z => ?_⟩
  · by_cases z : 0 ≤ spTy c 6 0
    · have sE : s1.1 = spTy c 6 0 := by unfold vEnd at a2; rw [if_pos z] at a2; exact a2
      simp only [if_pos z]
      rw [if_neg (show ¬ Int32.ofInt 1 = Int32.ofInt 0 from by decide), sr_gr0 X, Option.bind_some, cu_on, pl_ci (Cu_end h (by omega) (by omega)), sE]
      by_cases y : spTy c 6 0 = K 7
      · rw [if_pos y, if_neg (show ¬ spTy c 6 0 < (K 7 : Int) by omega), if_neg (show ¬ Int32.ofInt 1 = Int32.ofInt 0 from by decide)]
        exact za_rz (v := 1) (Or.inr rfl)
      · rw [if_neg y, if_pos (show spTy c 6 0 < (K 7 : Int) by omega), if_pos rfl]
        exact za_rz (v := 0) (Or.inl rfl)
    · simp only [if_neg z]
      rw [if_pos trivial, if_neg (show ¬ spTy c 6 0 = (K 7 : Int) by omega)]
      exact za_rz (v := 0) (Or.inl rfl)
  · obtain ⟨w0, w1, w2, w3, w4⟩ := a4 (by omega)
    exact ⟨by rw [← z]; exact w3, w4⟩
