/-- a record -/
theorem sim_rec {m : Nat} {h : ax_Hp} {c v : Int → Int} {val : Bool} (hv : ∀ p, 160 ≤ p → v p = 0) {D : Nat} (E : simE m h c v val D (re m h) (fun _ => True)) : simE m h c v val (D + 1) (rj m h) (fun t => c t = 82) := by
  intro s d q n t ok X hB hD N hel
  have X' := X
  obtain ⟨x1, x2, x3, x4, x5, x6, x7, x8, x9, x10⟩ := X
  obtain ⟨⟨l1, l2, l3, l4, l5⟩, -, -, N1⟩ := N
  obtain ⟨N2, ⟨l, N3⟩, N4⟩ := N1 ok
  have b := isV_b x3 q
  have eV : spVal c v val (D + 1) t q = if v q = 123 then spFs v (spVal c v val D) (spPt c (D + 1) t) (q + 1) else -1 - q := by rw [spVal_s]; unfold spV1; rw [if_neg (by omega), if_neg (by omega), if_pos ok]
  have eO : spO (s.1 39) c v val (D + 1) t q = (if s.1 39 = 2 then [123] else []) ++ (spFsO (s.1 39) (spVal c v val D) (spO (s.1 39) c v val D) (spPt c (D + 1) t) (q + 1) ++ (if s.1 39 = 2 then [125] else [])) := by rw [spO_s]; unfold spO1; rw [if_neg (by omega), if_neg (by omega), if_pos ok]
  have eA : spA c v val (D + 1) t q = spFsA (spVal c v val D) (spA c v val D) (spPt c (D + 1) t) (q + 1) := by rw [spA_s]; unfold spA1; rw [if_neg (by omega), if_neg (by omega), if_pos ok]
  have len6 := spPt_len c (D + 1) t
  rw [eA] at hel
  rw [eV, eO, eA]
  obtain ⟨H1, H2⟩ := Model_head_z (m := m) (h := h) (s := s) (v := v) (q := q) (d := d) (n := n) (k := 82) x3 x6 x7 (by omega) l1 l2 (l4.trans ok) (Or.inr rfl) x10.1 x10.2 x9.1 (by omega) x5
  rw [if_neg (by decide)] at H1 H2
  by_cases c1 : v q = 123
  · rw [if_pos c1]
    obtain ⟨s3, ⟨F3, f31, f38, f3st, f32, f33, f34, f3sd, f40, f41⟩, e3⟩ := H2 c1
    rw [if_neg (by decide)] at e3
    have lt0 : q < 160 := lt_of hv (by omega)
    have y39 := txF_39 F3
    have n3 := said_1 f3sd
    have n3l : ((if s.1 39 = 2 then [v q] else []).length : Int) ≤ 1 := by split <;> simp
    have X3 : tcx c v val s3 (d + 1) (q + 1) := tcx_of X' F3 f31 (by omega) (by rw [f40]; omega) (by rw [n3]; omega) (by omega)
    have hel3 : elh s3 (spFsA (spVal c v val D) (spA c v val D) (spPt c (D + 1) t) (q + 1)) := fun z j hj => by rw [f40, f41]; exact hel (by omega) j hj
    have ch : ndCh (s3.2.2.1 19) (fdP s3.2.2.1 c D) (s.2.2.1 18 n.toNat) (spPt c (D + 1) t) := ndCh_of (fun n x y => fdP_tx F3 y) (fun i => by rw [txF_17 F3 (by decide) (by decide)]) _ _ N4
    obtain ⟨I1, I2⟩ := sim_fls hv E (n := n) l1 l2 (spPt c (D + 1) t) s3 d (q + 1) (s.2.2.1 18 n.toNat) 0 (by rw [N3]; simp) X3 (by rw [n3]; omega) x7 (by omega) f38 (by rw [txF_17 F3 (by decide) (by decide)]; exact l4.trans ok) f32 f33 f34 ch (by omega) (by omega) hel3
    have run : ∀ fuel, rj m h fuel n q s = rt m h fuel (q + 1) s3 := fun fuel => by
      unfold rj
      rw [e3]
      rfl
    have Be := spFs_b (f := spVal c v val D) hv (fun t q a b => spVal_b hv D t q a b) (spPt c (D + 1) t) (q + 1) (by omega) (by omega)
    unfold bd at Be
    refine ⟨fun z => ?_, fun z => ?_⟩
    · obtain ⟨k, s', i1, i2, i3, i4, i5, i6, i7, i8, i9, i10⟩ := I1 z
      rw [y39] at i7 i10
      refine ⟨k, s', by omega, fun fuel => by rw [run, i2], ⟨F3.trans i3, i4, i5, f3st.trans i6, ?_, ?_⟩, by omega, ?_⟩
      · have := f3sd.trans i7
        rw [c1] at this
        exact this
      · have := (els_0 f40 f41).trans x8.1 y39 i8
        exact this
      · rw [List.length_append, List.length_append]
        have l1 : ((if s.1 39 = 2 then [(123 : Int)] else []).length : Int) ≤ 1 := by split <;> simp
        have l2 : ((if s.1 39 = 2 then [(125 : Int)] else []).length : Int) ≤ 1 := by split <;> simp
        have e1 : (16 + 2 * (D : Int)) * (spFs v (spVal c v val D) (spPt c (D + 1) t) (q + 1) - (q + 1) - 1) = (16 + 2 * (D : Int)) * (spFs v (spVal c v val D) (spPt c (D + 1) t) (q + 1) - q) - (16 + 2 * (D : Int)) * 2 := by rw [show spFs v (spVal c v val D) (spPt c (D + 1) t) (q + 1) - (q + 1) - 1 = (spFs v (spVal c v val D) (spPt c (D + 1) t) (q + 1) - q) - 2 by omega, wsub]
        have e2 : (16 + 2 * ((D + 1 : Nat) : Int)) * (spFs v (spVal c v val D) (spPt c (D + 1) t) (q + 1) - q) = (16 + 2 * (D : Int)) * (spFs v (spVal c v val D) (spPt c (D + 1) t) (q + 1) - q) + 2 * (spFs v (spVal c v val D) (spPt c (D + 1) t) (q + 1) - q) := by rw [show (16 + 2 * ((D + 1 : Nat) : Int)) = (16 + 2 * (D : Int)) + 2 by omega, wadd]
        omega
    · obtain ⟨k, s', i1, i2, i3⟩ := I2 z
      exact ⟨k, s', by omega, fun fuel => by rw [run, i2], F3.trans i3.1, fun z0 => (i3.2 (y39.trans z0)).trans (by rw [if_neg (show ¬ s.1 39 = 2 by omega), List.length_nil] at n3; omega)⟩
  · rw [if_neg c1]
    refine ⟨fun z => absurd z (by omega), fun _ => ⟨1, mI s 38 1, by omega, fun fuel => ?_, ⟨fun x j1 j2 j3 j4 => if_neg j3, fun _ _ _ _ _ _ _ => rfl, rfl⟩, fun _ => rfl⟩⟩
    unfold rj
    rw [H1 c1]
    exact rt_neg (by omega) (by omega)
/-- all but a U -/
theorem sim_N0 {m : Nat} {h : ax_Hp} {c v : Int → Int} {val : Bool} (hv : ∀ p, 160 ≤ p → v p = 0) : simE m h c v val 0 (rj m h) (fun t => c t ≠ 85) := by
  intro s d q n t ok X hB hD N hel
  exact sim_leaf hv 0 s d q n t N.2 X hB hD N hel
theorem sim_N1 {m : Nat} {h : ax_Hp} {c v : Int → Int} {val : Bool} (hv : ∀ p, 160 ≤ p → v p = 0) {D : Nat} (E : simE m h c v val D (re m h) (fun _ => True)) : simE m h c v val (D + 1) (rj m h) (fun t => c t ≠ 85) := by
  intro s d q n t ok X hB hD N hel
  by_cases c1 : c t = 65
  · exact sim_arr hv E s d q n t c1 X hB hD N hel
  · by_cases c2 : c t = 82
    · exact sim_rec hv E s d q n t c2 X hB hD N hel
    · exact sim_leaf hv (D + 1) s d q n t ⟨c1, ok, c2⟩ X hB hD N hel
theorem re_rj {m : Nat} {h : ax_Hp} {s : mS} {n q x : Int} (n0 : 0 ≤ n) (n1 : n < 240) (hk : s.2.2.1 17 n.toNat = x) (x0 : 0 ≤ x) (x1 : x < 128) (hx : x ≠ 85) (fuel : Nat) : re m h fuel n q s = rj m h fuel n q s := by
  unfold re rj
  rw [Model_enter_F]
  unfold Model_enter_b
  rw [mgr_17, Option.bind_some, mld_17 _ _ _ n0 n1, Option.bind_some, hk, if_neg (show ¬ Int32.ofInt x = 85 from by rw [show (85 : Int32) = Int32.ofInt 85 from rfl, zi_eq (by omega) (by omega) (by omega) (by omega)]; exact hx)]
/-- a U -/
theorem sim_U {m : Nat} {h : ax_Hp} {c v : Int → Int} {val : Bool} (hv : ∀ p, 160 ≤ p → v p = 0) {D : Nat} (E : simE m h c v val D (rj m h) (fun t => c t ≠ 85)) : simE m h c v val (D + 1) (re m h) (fun t => c t = 85) := by
  intro s d q n t ok X hB hD N hel
  have X' := X
  obtain ⟨x1, x2, x3, x4, x5, x6, x7, x8, x9, x10⟩ := X
  obtain ⟨⟨l1, l2, l3, l4, l5⟩, -, N1, -⟩ := N
  obtain ⟨N2, ⟨l, N3⟩, N4⟩ := N1 ok
  have b := isV_b x3 q
  have b1 := isV_b x3 (q + 1)
  have len6 := spPt_len c (D + 1) t
  have wd : ∀ x y : Int, 0 ≤ x → y ≤ (16 + 2 * (D : Int)) * x + 2 → 2 ≤ 2 * x → y ≤ (16 + 2 * ((D + 1 : Nat) : Int)) * x := fun x y h1 h2 h3 => by
    rw [show (16 + 2 * ((D + 1 : Nat) : Int)) = (16 + 2 * (D : Int)) + 2 by omega, wadd]; omega
  cases val with
  | true =>
    have eV : spVal c v true (D + 1) t q = if 0 ≤ v q - 48 ∧ v q - 48 < (spPt c (D + 1) t).length then (if v (q + 1) = 58 then spVal c v true D ((spPt c (D + 1) t).getD (v q - 48).toNat 0) (q + 2) else -1 - (q + 1)) else -1 - q := by rw [spVal_s]; unfold spV1; rw [if_neg (by omega), if_pos ok]; rfl
    have eO : spO (s.1 39) c v true (D + 1) t q = (if s.1 39 = 1 then [2 * (v q - 48)] else if s.1 39 = 2 then [v q, v (q + 1)] else []) ++ spO (s.1 39) c v true D ((spPt c (D + 1) t).getD (v q - 48).toNat 0) (q + 2) := by rw [spO_s]; unfold spO1; rw [if_neg (by omega), if_pos ok]; rfl
    have eA : spA c v true (D + 1) t q = spA c v true D ((spPt c (D + 1) t).getD (v q - 48).toNat 0) (q + 2) := by rw [spA_s]; unfold spA1; rw [if_neg (by omega), if_pos ok]; rfl
    rw [eA] at hel
    rw [eV, eO, eA]
    have x4 : s.1 29 = 1 := x4
    have pre : ∀ fuel, re m h fuel n q s = ax_ci (if v q - 48 < 0 then Model_enter_jn50 (ax_F (m + 5)) (Int32.ofInt q) (mH h s) else if v q - 48 < (spPt c (D + 1) t).length then (if v (q + 1) = 58 then ax_cv (ax_F (m + 5) 159 [ax_A (some 24), ax_I (Int32.ofInt q), ax_I (Int32.ofInt (q + 2))] (mH h s)) (fun h48 => (ax_gi h48 (some 24) 9 39).bind fun v50 => if v50 = 1 then ax_on h48 (some 24) 9 <| ax_cv (ax_F (m + 5) 160 [ax_A (some 24), ax_I (2 * (Int32.ofInt (v q) - 48))] h48) fun h53 => Model_enter_jn101 (ax_F (m + 5)) (some 24) (Int32.ofInt n) (Int32.ofInt q) (Int32.ofInt (v q) - 48) h53 else Model_enter_jn101 (ax_F (m + 5)) (some 24) (Int32.ofInt n) (Int32.ofInt q) (Int32.ofInt (v q) - 48) h48) else some (.inl (some (ax_I (Int32.ofInt (-1 - (q + 1))))), mH h s)) else Model_enter_jn50 (ax_F (m + 5)) (Int32.ofInt q) (mH h s)) (fun x g => Model_readText_lp34 (ax_F (m + 6)) fuel (some 24) x g) := by
      intro fuel
      unfold re
      refine congrArg (fun z => ax_ci z (fun x g => Model_readText_lp34 (ax_F (m + 6)) fuel (some 24) x g)) ?_
      rw [Model_enter_F]
      unfold Model_enter_b
      rw [mgr_17, Option.bind_some, mld_17 _ _ _ l1 l2, Option.bind_some, l4, ok, if_pos (show Int32.ofInt 85 = 85 from rfl), mgi_29, Option.bind_some, x4, if_neg (show ¬ Int32.ofInt 1 = 0 from by decide), mS_on, pl_ci (Model_see_z x3 x10.1 (by omega)), show (48 : Int32) = Int32.ofInt 48 from rfl, zi_sub, zi_0, mgr_20, Option.bind_some, mld_20 _ _ _ l1 l2, Option.bind_some, N2, show (1 : Int32) = Int32.ofInt 1 from rfl, zi_add, mS_on, pl_ci (Model_see_z x3 (by omega) (by omega)), mS_on, show (2 : Int32) = Int32.ofInt 2 from rfl, zi_add, show (58 : Int32) = Int32.ofInt 58 from rfl, zi_neg, zi_sub]
      simp (disch := omega) only [zi_lt, zi_eq]
      rfl
    have fail0 : ∀ fuel, ax_ci (Model_enter_jn50 (ax_F (m + 5)) (Int32.ofInt q) (mH h s)) (fun x g => Model_readText_lp34 (ax_F (m + 6)) (fuel + 1) (some 24) x g) = some (.inl (some (ax_I (Int32.ofInt (-1 - q)))), mH h s) := fun fuel => by
      unfold Model_enter_jn50
      rw [show (-1 : Int32) = Int32.ofInt (-1) from rfl, zi_sub]
      exact rt_neg (by omega) (by omega)
    by_cases c1 : 0 ≤ v q - 48 ∧ v q - 48 < (spPt c (D + 1) t).length
    · rw [if_pos c1]
      have lt0 : q < 160 := lt_of hv (by omega)
      by_cases c2 : v (q + 1) = 58
      · rw [if_pos c2]
        have lt1 : q + 1 < 160 := lt_of hv (by omega)
        obtain ⟨s1, e1, f1, g1, -⟩ := Model_sayCharacters_z (m := m + 2) (h := h) (s := s) (p := q) (q := q + 2) x3 x10.1 (by omega) (by omega) x9.1 (by omega) x5
        rw [show (q + 2 - q).toNat = 2 by omega] at g1
        have n1 := said_1 g1
        have n1l : ((if s.1 39 = 2 then spCh v q 2 else []).length : Int) ≤ 2 := by split <;> simp [spCh_len]
        have z39 := f1.1 39 (by decide)
        -- the state before the branch is read
        have key : ∃ s2, syF s s2 ∧ said s s2 (if s.1 39 = 1 then [2 * (v q - 48)] else if s.1 39 = 2 then [v q, v (q + 1)] else []) ∧ ∀ fuel, re m h fuel n q s = ax_ci (Model_enter_jn101 (ax_F (m + 5)) (some 24) (Int32.ofInt n) (Int32.ofInt q) (Int32.ofInt (v q - 48)) (mH h s2)) (fun x g => Model_readText_lp34 (ax_F (m + 6)) fuel (some 24) x g) := by
          by_cases c3 : s.1 39 = 1
          · obtain ⟨s2, e2, f2, g2, -⟩ := Model_say_z (n := m + 4) (h := h) (s := s1) (x := 2 * (v q - 48)) (by omega) (by omega)
            refine ⟨s2, f1.trans f2, ?_, fun fuel => ?_⟩
            · have := g1.trans g2
              rw [if_neg (by omega)] at this
              rw [if_pos c3]
              exact this
            · rw [pre, if_neg (by omega), if_pos c1.2, if_pos c2, pl_cv e1, mgi_39, Option.bind_some, z39, c3, if_pos (by decide), mS_on, show (48 : Int32) = Int32.ofInt 48 from rfl, show (2 : Int32) = Int32.ofInt 2 from rfl, zi_sub, zi_mul, pl_cv e2]
          · refine ⟨s1, f1, ?_, fun fuel => ?_⟩
            · rw [if_neg c3]
              exact g1
            · rw [pre, if_neg (by omega), if_pos c1.2, if_pos c2, pl_cv e1, mgi_39, Option.bind_some, z39, if_neg (show ¬ Int32.ofInt (s.1 39) = 1 from by rw [show (1 : Int32) = Int32.ofInt 1 from rfl, zi_eq (by omega) (by omega) (by omega) (by omega)]; exact c3), show (48 : Int32) = Int32.ofInt 48 from rfl, zi_sub]
        obtain ⟨s2, f2, g2, run⟩ := key
        have n2 := said_1 g2
        have n2l : ((if s.1 39 = 1 then [2 * (v q - 48)] else if s.1 39 = 2 then [v q, v (q + 1)] else []).length : Int) ≤ 2 := by split <;> (try split) <;> simp
        have ch : ndCh (s2.2.2.1 19) (fun m x => c x ≠ 85 ∧ Nd s2.2.2.1 c D m x) (s2.2.2.1 18 n.toNat) (spPt c (D + 1) t) := by
          rw [f2.2.1 18 (by decide)]
          exact ndCh_of (fun n x y => ⟨y.1, Nd_tx f2.tx y.2⟩) (fun i => by rw [f2.2.1 19 (by decide)]) _ _ N4
        obtain ⟨b', eb, b0, b1', nb, Nb⟩ := Model_branch_z (m := m + 4) (h := h) (s := s2) (n := n) (num := v q - 48) l1 l2 ch c1.1 c1.2 (by omega)
        have run2 : ∀ fuel, re m h fuel n q s = rj m h fuel b' (q + 2) s2 := fun fuel => by
          rw [run]
          unfold Model_enter_jn101 rj
          rw [mS_on, pl_ci eb, show (2 : Int32) = Int32.ofInt 2 from rfl, zi_add]
        have X2 : tcx c v true s2 d (q + 2) := tcx_of X' f2.tx ((f2.1 31 (by decide)).trans x6) x7 (by rw [f2.1 40 (by decide)]; omega) (by rw [n2]; omega) (by omega)
        have hel2 : elh s2 (spA c v true D ((spPt c (D + 1) t).getD (v q - 48).toNat 0) (q + 2)) := fun z j hj => by
          rw [f2.1 40 (by decide), f2.2.1 41 (by decide)]
          exact hel (by rw [← f2.1 39 (by decide)]; exact z) j hj
        obtain ⟨I1, I2⟩ := E s2 d (q + 2) b' _ nb X2 (by rw [n2]; omega) (by omega) Nb hel2
        have y39 := f2.1 39 (by decide)
        have B := spVal_b (c := c) (val := true) hv D ((spPt c (D + 1) t).getD (v q - 48).toNat 0) (q + 2) (by omega) (by omega)
        unfold bd at B
        refine ⟨fun z => ?_, fun z => ?_⟩
        · obtain ⟨k, s', i1, i2, ⟨i3, i4, i5, i6, i7, i8⟩, i9, i10⟩ := I1 z
          rw [y39] at i7 i10
          refine ⟨k, s', by omega, fun fuel => by rw [run2, i2], ⟨f2.tx.trans i3, i4, i5, (f2.stk d).trans i6, g2.trans i7, ?_⟩, by omega, ?_⟩
          · exact (els_0 (f2.1 40 (by decide)) (f2.2.1 41 (by decide))).trans x8.1 y39 i8
          · rw [List.length_append]
            refine wd _ _ (by omega) ?_ (by omega)
            have := Int.mul_le_mul_of_nonneg_left (c := 16 + 2 * (D : Int)) (show spVal c v true D ((spPt c (D + 1) t).getD (v q - 48).toNat 0) (q + 2) - (q + 2) ≤ spVal c v true D ((spPt c (D + 1) t).getD (v q - 48).toNat 0) (q + 2) - q by omega) (by omega)
            omega
        · obtain ⟨k, s', i1, i2, i3⟩ := I2 z
          exact ⟨k, s', by omega, fun fuel => by rw [run2, i2], f2.tx.trans i3.1, fun z0 => (i3.2 (y39.trans z0)).trans (by rw [if_neg (show ¬ s.1 39 = 1 by omega), if_neg (show ¬ s.1 39 = 2 by omega), List.length_nil] at n2; omega)⟩
      · rw [if_neg c2]
        refine ⟨fun z => absurd z (by omega), fun _ => ⟨1, s, by omega, fun fuel => ?_, txF_refl s, fun _ => rfl⟩⟩
        rw [pre, if_neg (by omega), if_pos c1.2, if_neg c2]
        exact rt_neg (by omega) (by omega)
    · rw [if_neg c1]
      refine ⟨fun z => absurd z (by omega), fun _ => ⟨1, s, by omega, fun fuel => ?_, txF_refl s, fun _ => rfl⟩⟩
      rw [pre]
      by_cases c2 : v q - 48 < 0
      · rw [if_pos c2]; exact fail0 fuel
      · rw [if_neg c2, if_neg (by omega)]; exact fail0 fuel
  | false =>
    have eV : spVal c v false (D + 1) t q = spVal c v false D (t + 2) q := by rw [spVal_s]; unfold spV1; rw [if_neg (by omega), if_pos ok]; rfl
    have eO : spO (s.1 39) c v false (D + 1) t q = (if s.1 39 = 2 then [48, 58] else []) ++ spO (s.1 39) c v false D (t + 2) q := by rw [spO_s]; unfold spO1; rw [if_neg (by omega), if_pos ok]; rfl
    have eA : spA c v false (D + 1) t q = spA c v false D (t + 2) q := by rw [spA_s]; unfold spA1; rw [if_neg (by omega), if_pos ok]; rfl
    rw [eA] at hel
    rw [eV, eO, eA]
    have x4 : s.1 29 = 0 := x4
    rw [N3] at N4
    obtain ⟨m1, m2, ⟨m3, m4⟩, -⟩ := N4
    have key : ∃ s2, syF s s2 ∧ said s s2 (if s.1 39 = 2 then [48, 58] else []) ∧ ∀ fuel, re m h fuel n q s = rj m h fuel (s.2.2.1 18 n.toNat) q s2 := by
      by_cases c3 : s.1 39 = 2
      · obtain ⟨s1, e1, f1, g1, -⟩ := Model_say_z (n := m + 4) (h := h) (s := s) (x := 48) (by omega) (by omega)
        have n1 := said_1 g1
        rw [List.length_singleton] at n1
        obtain ⟨s2, e2, f2, g2, -⟩ := Model_say_z (n := m + 4) (h := h) (s := s1) (x := 58) (by omega) (by omega)
        refine ⟨s2, f1.trans f2, ?_, fun fuel => ?_⟩
        · rw [if_pos c3]; exact g1.trans g2
        · unfold re rj
          refine congrArg (fun z => ax_ci z (fun x g => Model_readText_lp34 (ax_F (m + 6)) fuel (some 24) x g)) ?_
          rw [Model_enter_F]
          unfold Model_enter_b
          rw [mgr_17, Option.bind_some, mld_17 _ _ _ l1 l2, Option.bind_some, l4, ok, if_pos (show Int32.ofInt 85 = 85 from rfl), mgi_29, Option.bind_some, x4, if_pos (show Int32.ofInt 0 = 0 from rfl), mgr_18, Option.bind_some, mld_18 _ _ _ l1 l2, Option.bind_some, mgi_39, Option.bind_some, c3, if_pos (show Int32.ofInt 2 = 2 from rfl), mS_on, show (48 : Int32) = Int32.ofInt 48 from rfl, show (58 : Int32) = Int32.ofInt 58 from rfl, pl_cv e1, mS_on, pl_cv e2]
      · refine ⟨s, syF_refl s, ?_, fun fuel => ?_⟩
        · rw [if_neg c3]; exact said_0 rfl rfl
        · unfold re rj
          refine congrArg (fun z => ax_ci z (fun x g => Model_readText_lp34 (ax_F (m + 6)) fuel (some 24) x g)) ?_
          rw [Model_enter_F]
          unfold Model_enter_b
          rw [mgr_17, Option.bind_some, mld_17 _ _ _ l1 l2, Option.bind_some, l4, ok, if_pos (show Int32.ofInt 85 = 85 from rfl), mgi_29, Option.bind_some, x4, if_pos (show Int32.ofInt 0 = 0 from rfl), mgr_18, Option.bind_some, mld_18 _ _ _ l1 l2, Option.bind_some, mgi_39, Option.bind_some, if_neg (show ¬ Int32.ofInt (s.1 39) = 2 from by rw [show (2 : Int32) = Int32.ofInt 2 from rfl, zi_eq (by omega) (by omega) (by omega) (by omega)]; exact c3)]
    obtain ⟨s2, f2, g2, run2⟩ := key
    have n2 := said_1 g2
    have n2l : ((if s.1 39 = 2 then [(48 : Int), 58] else []).length : Int) ≤ 2 := by split <;> simp
    have y39 := f2.1 39 (by decide)
    have X2 : tcx c v false s2 d q := tcx_of X' f2.tx ((f2.1 31 (by decide)).trans x6) x7 (by rw [f2.1 40 (by decide)]; omega) (by rw [n2]; omega) (by omega)
    have hel2 : elh s2 (spA c v false D (t + 2) q) := fun z j hj => by
      rw [f2.1 40 (by decide), f2.2.1 41 (by decide)]
      exact hel (by rw [← f2.1 39 (by decide)]; exact z) j hj
    obtain ⟨I1, I2⟩ := E s2 d q (s.2.2.1 18 n.toNat) (t + 2) m3 X2 (by rw [n2]; omega) (by omega) (Nd_tx f2.tx m4) hel2
    have B := spVal_b (c := c) (val := false) hv D (t + 2) q (by omega) (by omega)
    unfold bd at B
    refine ⟨fun z => ?_, fun z => ?_⟩
    · obtain ⟨k, s', i1, i2, ⟨i3, i4, i5, i6, i7, i8⟩, i9, i10⟩ := I1 z
      rw [y39] at i7 i10
      refine ⟨k, s', by omega, fun fuel => by rw [run2, i2], ⟨f2.tx.trans i3, i4, i5, (f2.stk d).trans i6, g2.trans i7, ?_⟩, by omega, ?_⟩
      · exact (els_0 (f2.1 40 (by decide)) (f2.2.1 41 (by decide))).trans x8.1 y39 i8
      · rw [List.length_append]
        exact wd _ _ (by omega) (by omega) (by omega)
    · obtain ⟨k, s', i1, i2, i3⟩ := I2 z
      exact ⟨k, s', by omega, fun fuel => by rw [run2, i2], f2.tx.trans i3.1, fun z0 => (i3.2 (y39.trans z0)).trans (by rw [if_neg (show ¬ s.1 39 = 2 by omega), List.length_nil] at n2; omega)⟩
/-- any type -/
theorem sim_all {m : Nat} {h : ax_Hp} {c v : Int → Int} {val : Bool} (hv : ∀ p, 160 ≤ p → v p = 0) : ∀ D, simE m h c v val D (re m h) (fun _ => True) ∧ simE m h c v val D (rj m h) (fun t => c t ≠ 85)
  | 0 => by
    refine ⟨fun s d q n t _ X hB hD N hel => ?_, sim_N0 hv⟩
    have L := Nd_lf N
    have bt := X.1.2.2.2.2 t
    obtain ⟨I1, I2⟩ := sim_N0 hv (m := m) (h := h) (val := val) s d q n t N.2.2.1 X hB hD N hel
    have r := re_rj (m := m) (h := h) (s := s) (q := q) L.1 L.2.1 L.2.2.2.1 bt.1 bt.2 N.2.2.1
    exact ⟨fun z => by obtain ⟨k, s', i1, i2, i3⟩ := I1 z; exact ⟨k, s', i1, fun fuel => by rw [r, i2], i3⟩, fun z => by obtain ⟨k, s', i1, i2, i3⟩ := I2 z; exact ⟨k, s', i1, fun fuel => by rw [r, i2], i3⟩⟩
  | D + 1 => by
    obtain ⟨E1, E2⟩ := sim_all hv D (m := m) (h := h) (c := c) (val := val)
    have N1 := sim_N1 hv E1
    refine ⟨fun s d q n t _ X hB hD N hel => ?_, N1⟩
    by_cases c1 : c t = 85
    · exact sim_U hv E2 s d q n t c1 X hB hD N hel
    · have L := Nd_lf N
      have bt := X.1.2.2.2.2 t
      obtain ⟨I1, I2⟩ := N1 s d q n t c1 X hB hD N hel
      have r := re_rj (m := m) (h := h) (s := s) (q := q) L.1 L.2.1 L.2.2.2.1 bt.1 bt.2 c1
      exact ⟨fun z => by obtain ⟨k, s', i1, i2, i3⟩ := I1 z; exact ⟨k, s', i1, fun fuel => by rw [r, i2], i3⟩, fun z => by obtain ⟨k, s', i1, i2, i3⟩ := I2 z; exact ⟨k, s', i1, fun fuel => by rw [r, i2], i3⟩⟩
