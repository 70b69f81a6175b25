theorem zi_eqp {a : Int} {n : Nat} (h1 : -2147483648 ≤ a) (h2 : a < 2147483648) (hn : n < 2147483648) (e : a = n) : Int32.ofInt a = OfNat.ofNat n := by
  rw [e, Int32.ofInt_eq_ofNat]; rfl
theorem zi_eqn {a : Int} {n : Nat} (h1 : -2147483648 ≤ a) (h2 : a < 2147483648) (hn : n < 2147483648) (e : ¬ a = n) : ¬ Int32.ofInt a = OfNat.ofNat n := by
  rw [show (OfNat.ofNat n : Int32) = Int32.ofInt n from (Int32.ofInt_eq_ofNat).symm, zi_eq h1 h2 (by omega) (by omega)]
  exact e
theorem sayCh_1 {m : Nat} {h : ax_Hp} {s : mS} {v : Int → Int} {p : Int} (V : isV s v) (p0 : 0 ≤ p) (p1 : p ≤ 200) (d0 : 0 ≤ s.1 7) (d1 : s.1 7 < 900000000) (hsp : 0 ≤ s.1 39 ∧ s.1 39 ≤ 2) : ∃ s', ax_F (m + 3) 159 [ax_A (some 24), ax_I (Int32.ofInt p), ax_I (Int32.ofInt (p + 1))] (mH h s) = some (.inl none, mH h s') ∧ syF s s' ∧ said s s' (if s.1 39 = 2 then [v p] else []) := by
  obtain ⟨s1, e1, f1, g1, -⟩ := Model_sayCharacters_z (m := m) (h := h) (p := p) (q := p + 1) V p0 (by omega) (by omega) d0 (by omega) hsp
  rw [show (p + 1 - p).toNat = 1 by omega] at g1
  exact ⟨s1, e1, f1, g1⟩
theorem Model_closeList_z {m : Nat} {h : ax_Hp} {s : mS} {v : Int → Int} {p d a k : Int} (V : isV s v) (hd : s.1 31 = d + 1) (d0 : 0 ≤ d) (d1 : d < 10) (ha : s.2.2.1 35 d.toNat = a) (a0 : 0 ≤ a) (a1 : a < 100) (hk : s.2.2.1 34 d.toNat = k) (p0 : 0 ≤ p) (p1 : p ≤ 200) (y0 : 0 ≤ s.1 7) (y1 : s.1 7 < 800000000) (hsp : 0 ≤ s.1 39 ∧ s.1 39 ≤ 2) :
    ∃ s', ax_F (m + 4) 169 [ax_A (some 24), ax_I (Int32.ofInt p)] (mH h s) = some (.inl (some (ax_I (Int32.ofInt (p + 1)))), mH h s') ∧ txF s s' ∧ s'.1 31 = d ∧ s'.1 38 = 1 ∧ (∀ x, x = 32 ∨ x = 33 ∨ x = 34 ∨ x = 35 → s'.2.2.1 x = s.2.2.1 x) ∧ said s s' (if s.1 39 = 1 then [0] else if s.1 39 = 2 then [v p] else []) ∧ s'.1 40 = s.1 40 ∧ s'.2.2.1 41 = (if s.1 39 = 1 then s.2.2.1 41 else fun x => if x = a.toNat then k else s.2.2.1 41 x) := by
  rw [Model_closeList_F]
  unfold Model_closeList_b Model_closeList_jn49
  by_cases c : s.1 39 = 1
  · obtain ⟨s1, e1, f1, g1, -⟩ := Model_say_z (n := m + 2) (h := h) (s := mI s 31 d) (x := 0) y0 (by show s.1 7 < _; omega)
    have n1 := said_1 g1
    have y7 : (mI s 31 d).1 7 = s.1 7 := rfl
    have V1 : isV s1 v := syF_isV f1 (isV_of V rfl rfl rfl rfl rfl rfl)
    have z39 : s1.1 39 = 1 := (f1.1 39 (by decide)).trans c
    obtain ⟨s2, e2, f2, g2⟩ := sayCh_1 (m := m) (h := h) (s := s1) (p := p) V1 p0 p1 (by rw [n1, y7]; simp; omega) (by rw [n1, y7]; simp; omega) (by omega)
    rw [z39, if_neg (by decide)] at g2
    refine ⟨mI s2 38 1, ?_, ⟨fun j j1 j2 j3 j4 => ?_, fun j j1 j2 j3 j4 j5 j6 => ?_, ?_⟩, ?_, rfl, fun x hx => ?_, ?_, ?_, ?_⟩
    · simp (disch := omega) only [↓mgi_31, ↓mgi_39, mpf_31, ↓mgr_34, ↓mgr_35, ↓mgr_41, mld_34, mld_35, mS_on, Option.bind_some, ↓zi_lit, zi_add, zi_sub, mI_1, mI_2, ↓reduceIte, eq_self, Nat.reduceEqDiff, hd, c]
      rw [show d + 1 - 1 = d by omega, pl_cv e1, mS_on, pl_cv e2]
      simp (disch := omega) only [mpf_38, Option.bind_some]
      rfl
    · rw [mI_1, if_neg j3, f2.1 j j1, f1.1 j j1, mI_1, if_neg j2]
    · rw [mI_2, f2.2.1 j j1, f1.2.1 j j1, mI_2]
    · rw [mI_2, f2.2.2, f1.2.2, mI_2]
    · rw [mI_1, if_neg (by decide), f2.1 31 (by decide), f1.1 31 (by decide), mI_1, if_pos rfl]
    · rw [mI_2, f2.2.1 x (by omega), f1.2.1 x (by omega), mI_2]
    · rw [if_pos c]
      have := g1.trans g2
      exact this
    · rw [mI_1, if_neg (by decide), f2.1 40 (by decide), f1.1 40 (by decide), mI_1, if_neg (by decide)]
    · rw [if_pos c, mI_2, f2.2.1 41 (by decide), f1.2.1 41 (by decide), mI_2]
  · have V1 : isV (mU (mI s 31 d) 41 a k) v := isV_of V rfl rfl rfl rfl rfl rfl
    obtain ⟨s2, e2, f2, g2⟩ := sayCh_1 (m := m) (h := h) (s := mU (mI s 31 d) 41 a k) (p := p) V1 p0 p1 y0 (by show s.1 7 < _; omega) hsp
    refine ⟨mI s2 38 1, ?_, ⟨fun j j1 j2 j3 j4 => ?_, fun j j1 j2 j3 j4 j5 j6 => ?_, ?_⟩, ?_, rfl, fun x hx => ?_, ?_, ?_, ?_⟩
    · simp (disch := omega) only [↓mgi_31, ↓mgi_39, mpf_31, ↓mgr_34, ↓mgr_35, ↓mgr_41, mld_34, mld_35, mS_on, Option.bind_some, ↓zi_lit, zi_add, zi_sub, mI_1, mI_2, zi_eq, ↓reduceIte, eq_self, Nat.reduceEqDiff, hd, c]
      rw [show d + 1 - 1 = d by omega]
      simp (disch := omega) only [mst_41, mS_on, Option.bind_some, ha, hk]
      rw [pl_cv e2]
      simp (disch := omega) only [mpf_38, Option.bind_some]
      rfl
    · rw [mI_1, if_neg j3, f2.1 j j1, mU_1, mI_1, if_neg j2]
    · rw [mI_2, f2.2.1 j j1, mU_ne _ _ _ _ _ j6, mI_2]
    · rw [mI_2, f2.2.2, mU_4, mI_2]
    · rw [mI_1, if_neg (by decide), f2.1 31 (by decide), mU_1, mI_1, if_pos rfl]
    · rw [mI_2, f2.2.1 x (by omega), mU_ne _ _ _ _ _ (by omega), mI_2]
    · rw [if_neg c]
      exact g2
    · rw [mI_1, if_neg (by decide), f2.1 40 (by decide), mU_1, mI_1, if_neg (by decide)]
    · rw [if_neg c, mI_2, f2.2.1 41 (by decide), mU_at, mI_2]
theorem Model_openList_z {m : Nat} {h : ax_Hp} {s : mS} {v : Int → Int} {p d : Int} (V : isV s v) (hd : s.1 31 = d + 1) (d0 : 0 ≤ d) (d1 : d < 10) (a0 : 0 ≤ s.1 40) (a1 : s.1 40 < 100) (p0 : 0 ≤ p) (p1 : p ≤ 200) (y0 : 0 ≤ s.1 7) (y1 : s.1 7 < 700000000) (hsp : 0 ≤ s.1 39 ∧ s.1 39 ≤ 2) (hel : s.1 39 = 1 → 0 ≤ s.2.2.1 41 (s.1 40).toNat ∧ s.2.2.1 41 (s.1 40).toNat ≤ 20) :
    ∃ s1, syF (mU (mU (mI s 40 (s.1 40 + 1)) 34 d 0) 35 d (s.1 40)) s1 ∧ said s s1 (if s.1 39 = 1 ∧ 0 < s.2.2.1 41 (s.1 40).toNat then [2 * s.2.2.1 41 (s.1 40).toNat] else []) ∧ ax_F (m + 5) 168 [ax_A (some 24), ax_I (Int32.ofInt p)] (mH h s) = if v p = 93 then ax_F (m + 4) 169 [ax_A (some 24), ax_I (Int32.ofInt p)] (mH h s1) else some (.inl (some (ax_I (Int32.ofInt p))), mH h s1) := by
  have b := isV_b V p
  have fin : ∀ s1 : mS, isV s1 v → ∀ (hcl : v p = 93 → ∃ r g, ax_F (m + 4) 169 [ax_A (some 24), ax_I (Int32.ofInt p)] (mH h s1) = some (.inl (some (ax_I r)), g)), Model_openList_jn68 (ax_F (m + 4)) (some 24) (Int32.ofInt p) (mH h s1) = if v p = 93 then ax_F (m + 4) 169 [ax_A (some 24), ax_I (Int32.ofInt p)] (mH h s1) else some (.inl (some (ax_I (Int32.ofInt p))), mH h s1) := by
    intro s1 V1 hcl
    unfold Model_openList_jn68
    rw [mS_on, pl_ci (Model_see_z V1 p0 (by omega))]
    by_cases c : v p = 93
    · obtain ⟨r, g, e⟩ := hcl c
      rw [if_pos (show Int32.ofInt (v p) = 93 from by rw [c]; rfl), if_pos c, mS_on, pl_ci e, e]
      rfl
    · rw [if_neg (show ¬ Int32.ofInt (v p) = 93 from by rw [show (93 : Int32) = Int32.ofInt 93 from rfl, zi_eq (by omega) (by omega) (by omega) (by omega)]; exact c), if_neg c]
      rfl
  have base : ∀ s1 : mS, syF (mU (mU (mI s 40 (s.1 40 + 1)) 34 d 0) 35 d (s.1 40)) s1 → s1.1 7 < 800000000 → 0 ≤ s1.1 7 → isV s1 v ∧ (v p = 93 → ∃ r g, ax_F (m + 4) 169 [ax_A (some 24), ax_I (Int32.ofInt p)] (mH h s1) = some (.inl (some (ax_I r)), g)) := by
    intro s1 f1 z1 z2
    have V1 : isV s1 v := syF_isV f1 (isV_of V rfl rfl rfl rfl rfl rfl)
    refine ⟨V1, fun _ => ?_⟩
    obtain ⟨s2, e2, -⟩ := Model_closeList_z (m := m) (h := h) (s := s1) (p := p) (d := d) (a := s.1 40) (k := 0) V1 ((f1.1 31 (by decide)).trans hd) d0 d1 (by rw [f1.2.1 35 (by decide), mU_3, if_pos ⟨rfl, rfl⟩]) a0 a1 (by rw [f1.2.1 34 (by decide), mU_3, if_neg (fun z => absurd z.1 (by decide)), mU_3, if_pos ⟨rfl, rfl⟩]) p0 p1 z2 z1 (by rw [f1.1 39 (by decide)]; exact hsp)
    exact ⟨_, _, e2⟩
  rw [Model_openList_F]
  unfold Model_openList_b
  by_cases c : s.1 39 = 1
  · have hl := hel c
    by_cases c2 : 0 < s.2.2.1 41 (s.1 40).toNat
    · rw [if_pos ⟨c, c2⟩]
      obtain ⟨s1, e1, f1, g1, -⟩ := Model_say_z (n := m + 3) (h := h) (s := mU (mU (mI s 40 (s.1 40 + 1)) 34 d 0) 35 d (s.1 40)) (x := 2 * s.2.2.1 41 (s.1 40).toNat) y0 (by show s.1 7 < _; omega)
      have n1 := said_1 g1
      have y7 : (mU (mU (mI s 40 (s.1 40 + 1)) 34 d 0) 35 d (s.1 40)).1 7 = s.1 7 := rfl
      have B := base s1 f1 (by rw [n1, y7]; simp; omega) (by rw [n1, y7]; simp; omega)
      refine ⟨s1, f1, g1, ?_⟩
      rw [← fin s1 B.1 B.2]
      simp (disch := omega) only [↓mgi_31, ↓mgi_39, ↓mgi_40, mpf_40, ↓mgr_34, ↓mgr_35, ↓mgr_41, mld_41, mst_34, mst_35, mS_on, Option.bind_some, ↓zi_lit, zi_add, zi_sub, zi_mul, mI_1, mI_2, mU_1, mU_3, zi_le, ↓reduceIte, eq_self, Nat.reduceEqDiff, false_and, hd, c]
      rw [show d + 1 - 1 = d by omega]
      rw [if_neg (by omega), pl_cv e1]
    · rw [if_neg (fun z => c2 z.2)]
      have B := base _ (syF_refl (mU (mU (mI s 40 (s.1 40 + 1)) 34 d 0) 35 d (s.1 40))) (by show s.1 7 < _; omega) y0
      refine ⟨_, syF_refl _, said_0 rfl rfl, ?_⟩
      rw [← fin _ B.1 B.2]
      simp (disch := omega) only [↓mgi_31, ↓mgi_39, ↓mgi_40, mpf_40, ↓mgr_34, ↓mgr_35, ↓mgr_41, mld_41, mst_34, mst_35, mS_on, Option.bind_some, ↓zi_lit, zi_add, zi_sub, zi_mul, mI_1, mI_2, mU_1, mU_3, zi_le, ↓reduceIte, eq_self, Nat.reduceEqDiff, false_and, hd, c]
      rw [show d + 1 - 1 = d by omega]
      rw [if_pos (by omega)]
  · rw [if_neg (fun z => c z.1)]
    have B := base _ (syF_refl (mU (mU (mI s 40 (s.1 40 + 1)) 34 d 0) 35 d (s.1 40))) (by show s.1 7 < _; omega) y0
    refine ⟨_, syF_refl _, said_0 rfl rfl, ?_⟩
    rw [← fin _ B.1 B.2]
    simp (disch := omega) only [↓mgi_31, ↓mgi_39, ↓mgi_40, mpf_40, ↓mgr_34, ↓mgr_35, ↓mgr_41, mld_41, mst_34, mst_35, mS_on, Option.bind_some, ↓zi_lit, zi_add, zi_sub, zi_mul, mI_1, mI_2, mU_1, mU_3, zi_eq, ↓reduceIte, Nat.reduceEqDiff, false_and, hd, c]
    rw [show d + 1 - 1 = d by omega]
