theorem Model_behind_A {m : Nat} {h : ax_Hp} {s : mS} {v : Int → Int} {val : Bool} {p d n j : Int} (V : isV s v) (hd : s.1 31 = d + 1) (d0 : 0 ≤ d) (d1 : d < 10) (hn : s.2.2.1 32 d.toNat = n) (n0 : 0 ≤ n) (n1 : n < 240) (hk : s.2.2.1 17 n.toNat = 65) (hj : s.2.2.1 34 d.toNat = j) (j0 : 0 ≤ j) (j1 : j < 20) (hval : s.1 29 = (if val then 1 else 0)) (p0 : 0 ≤ p) (p1 : p ≤ 200) (y0 : 0 ≤ s.1 7) (y1 : s.1 7 < 700000000) (hsp : 0 ≤ s.1 39 ∧ s.1 39 ≤ 2)
    (hcl : v p = 93 → ∃ r g, ax_F (m + 4) 169 [ax_A (some 24), ax_I (Int32.ofInt p)] (mH h (mU s 34 d (j + 1))) = some (.inl (some (ax_I r)), g)) :
    ax_F (m + 5) 170 [ax_A (some 24), ax_I (Int32.ofInt p)] (mH h s) = (if v p = 93 then ax_F (m + 4) 169 [ax_A (some 24), ax_I (Int32.ofInt p)] (mH h (mU s 34 d (j + 1))) else if v p = 44 ∧ j + 1 < mst val then ax_cv (ax_F (m + 4) 159 [ax_A (some 24), ax_I (Int32.ofInt p), ax_I (Int32.ofInt (p + 1))] (mH h (mU s 34 d (j + 1)))) (fun g => (ax_gr g (some 24) 9 17).bind fun v28 => (ax_ldi g v28 3 (Int32.ofInt n)).bind fun v29 => if v29 = 65 then Model_behind_jn222 (ax_F (m + 4)) (Int32.ofInt p) 2 (some 24) g else (ax_gi g (some 24) 9 38).bind fun v30 => Model_behind_jn222 (ax_F (m + 4)) (Int32.ofInt p) v30 (some 24) g) else some (.inl (some (ax_I (Int32.ofInt (-1 - p)))), mH h (mU s 34 d (j + 1)))) := by
  have b := isV_b V p
  have V1 : isV (mU s 34 d (j + 1)) v := isV_of V rfl rfl rfl rfl rfl rfl
  have see := Model_see_z (n := m + 2) (h := h) V1 p0 (by omega)
  rw [Model_behind_F]
  unfold Model_behind_b
  simp (disch := omega) only [↓mgi_31, ↓mgr_32, ↓mgr_34, mld_32, mld_34, mst_34, mS_on, Option.bind_some, ↓zi_lit, zi_add, zi_sub, Int.reduceNeg, hd]
  rw [show d + 1 - 1 = d by omega, hn, hj, pl_ci see]
  simp (disch := omega) only [↓mgi_29, ↓mgi_31, ↓mgr_17, ↓mgr_19, ↓mgr_33, ↓mgr_34, mld_17, mld_33, mld_34, mS_on, Option.bind_some, zi_sub, mU_1, mU_3, zi_eq, ↓reduceIte, eq_self, Nat.reduceEqDiff, Int.reduceNeg, false_and, true_and, hk, hval, hd]
  by_cases c1 : v p = 93
  · obtain ⟨r, g, e⟩ := hcl c1
    rw [if_pos c1, if_pos c1, pl_ci e, e]
    rfl
  · rw [if_neg c1, if_neg c1]
    by_cases c2 : v p = 44
    · rw [if_pos c2, show d + 1 - 1 = d by omega]
      cases val with
      | true =>
        simp (disch := omega) only [mS_on, ↓zi_lit, zi_neg, zi_add, zi_sub, zi_lt, ↓reduceIte, eq_self, Int.reduceEq, Int.reduceNeg, mst, Model_behind_jn86, Model_behind_jn89, Model_behind_jn194]
        by_cases c3 : j + 1 < 20
        · rw [if_pos c3, if_pos ⟨c2, c3⟩]
        · rw [if_neg c3, if_neg (fun z => c3 z.2)]
          rfl
      | false =>
        simp (disch := omega) only [mS_on, ↓zi_lit, zi_neg, zi_add, zi_sub, zi_lt, ↓reduceIte, eq_self, Int.reduceNeg, Bool.false_eq_true, mst, Model_behind_jn86, Model_behind_jn89, Model_behind_jn194]
        by_cases c3 : j + 1 < 3
        · rw [if_pos c3, if_pos ⟨c2, c3⟩]
        · rw [if_neg c3, if_neg (fun z => c3 z.2)]
          rfl
    · rw [if_neg c2, if_neg (fun z => c2 z.1)]
      unfold Model_behind_jn89
      simp (disch := omega) only [↓zi_lit, zi_neg, zi_sub, Int.reduceNeg]
      rfl
theorem Model_behind_R {m : Nat} {h : ax_Hp} {s : mS} {v : Int → Int} {p d n pn nx j : Int} (V : isV s v) (hd : s.1 31 = d + 1) (d0 : 0 ≤ d) (d1 : d < 10) (hn : s.2.2.1 32 d.toNat = n) (n0 : 0 ≤ n) (n1 : n < 240) (hk : s.2.2.1 17 n.toNat = 82) (hj : s.2.2.1 34 d.toNat = j) (j0 : 0 ≤ j) (j1 : j < 20) (hpn : s.2.2.1 33 d.toNat = pn) (pn0 : 0 ≤ pn) (pn1 : pn < 240) (hnx : s.2.2.1 19 pn.toNat = nx) (nx0 : -1 ≤ nx) (nx1 : nx < 240) (p0 : 0 ≤ p) (p1 : p ≤ 200) (y0 : 0 ≤ s.1 7) (y1 : s.1 7 < 700000000) (hsp : 0 ≤ s.1 39 ∧ s.1 39 ≤ 2) :
    ∃ s', ax_F (m + 5) 170 [ax_A (some 24), ax_I (Int32.ofInt p)] (mH h s) = some (.inl (some (ax_I (Int32.ofInt (if v p = (if nx < 0 then 125 else 44) then p + 1 else -1 - p)))), mH h s') ∧ txF s s' ∧ (v p = (if nx < 0 then 125 else 44) → s'.1 31 = (if nx < 0 then d else d + 1) ∧ s'.1 38 = (if nx < 0 then 1 else 2) ∧ stk d s s' ∧ s'.2.2.1 32 = s.2.2.1 32 ∧ s'.2.2.1 33 d.toNat = nx ∧ s'.2.2.1 34 d.toNat = j + 1 ∧ said s s' (if s.1 39 = 2 then [v p] else []) ∧ s'.1 40 = s.1 40 ∧ s'.2.2.1 41 = s.2.2.1 41) ∧ (¬ v p = (if nx < 0 then 125 else 44) → s'.1 7 = s.1 7) := by
  have b := isV_b V p
  have V1 : isV (mU s 34 d (j + 1)) v := isV_of V rfl rfl rfl rfl rfl rfl
  have see := Model_see_z (n := m + 2) (h := h) V1 p0 (by omega)
  rw [Model_behind_F]
  unfold Model_behind_b
  simp (disch := omega) only [↓mgi_31, ↓mgr_32, ↓mgr_34, mld_32, mld_34, mst_34, mS_on, Option.bind_some, ↓zi_lit, zi_add, zi_sub, Int.reduceNeg, hd]
  rw [show d + 1 - 1 = d by omega, hn, hj, pl_ci see]
  simp (disch := omega) only [↓mgi_29, ↓mgi_31, ↓mgr_17, ↓mgr_19, ↓mgr_33, ↓mgr_34, mld_17, mld_33, mld_34, mS_on, Option.bind_some, zi_sub, mU_1, mU_3, zi_eq, ↓reduceIte, eq_self, Nat.reduceEqDiff, Int.reduceEq, Int.reduceNeg, false_and, true_and, hk, hd]
  rw [show d + 1 - 1 = d by omega]
  simp (disch := omega) only [↓mgi_31, ↓mgr_33, mld_19, mld_33, mst_33, Option.bind_some, zi_sub, mU_1, mU_3, zi_le, ↓reduceIte, eq_self, Nat.reduceEqDiff, Int.reduceNeg, false_and, true_and, hpn, hnx, hd]
  rw [if_pos (show (d + 1 - 1).toNat = d.toNat by rw [show d + 1 - 1 = d by omega])]
  by_cases c : nx < 0
  · rw [if_neg (show ¬ 0 ≤ nx by omega), if_pos c, if_pos c]
    simp (disch := omega) only [↓mgi_31, mpf_31, mpf_38, mS_on, Option.bind_some, ↓zi_lit, zi_neg, zi_add, zi_sub, mU_1, zi_eq, ↓reduceIte, Int.reduceEq, Int.reduceNeg, hd, Model_behind_jn139, Model_behind_jn154, Model_behind_jn176, Model_behind_jn191, Model_behind_jn194, Model_behind_jn222]
    by_cases c2 : v p = 125
    · obtain ⟨s2, e2, f2, g2⟩ := sayCh_1 (m := m + 1) (h := h) (s := mI (mI (mU (mU s 34 d (j + 1)) 33 d nx) 31 (d + 1 - 1)) 38 1) (p := p) (v := v) (isV_of V rfl rfl rfl rfl rfl rfl) p0 p1 y0 (by show s.1 7 < _; omega) hsp
      have k17 : s2.2.2.1 17 n.toNat = 82 := by rw [f2.2.1 17 (by decide)]; exact hk
      have k38 : s2.1 38 = 1 := (f2.1 38 (by decide)).trans rfl
      refine ⟨mI s2 38 1, ?_, ⟨fun x j1 j2 j3 j4 => ?_, fun x j1 j2 j3 j4 j5 j6 => ?_, ?_⟩, fun _ => ⟨?_, ?_, fun x hx i hi => ?_, ?_, ?_, ?_, ?_, ?_, ?_⟩, fun z => absurd c2 z⟩
      · rw [if_pos c2, if_pos c2, pl_cv e2]
        simp (disch := omega) only [↓mgi_38, mpf_38, ↓mgr_17, mld_17, Option.bind_some, zi_eq, ↓reduceIte, Int.reduceEq, k17, k38]
        rfl
      · rw [mI_1, if_neg j3, f2.1 x j1, mI_1, if_neg j3, mI_1, if_neg j2, mU_1, mU_1]
      · rw [mI_2, f2.2.1 x j1, mI_2, mI_2, mU_ne _ _ _ _ _ j3, mU_ne _ _ _ _ _ j4]
      · rw [mI_2, f2.2.2]; rfl
      · rw [mI_1, if_neg (by decide), f2.1 31 (by decide), mI_1, if_neg (by decide), mI_1, if_pos rfl]; omega
      · rw [if_pos c]; rfl
      · rw [mI_2, f2.2.1 x (by omega), mI_2, mI_2, mU_3, mU_3, if_neg (by omega), if_neg (by omega)]
      · rw [mI_2, f2.2.1 32 (by decide)]; rfl
      · rw [mI_2, f2.2.1 33 (by decide), mI_2, mI_2, mU_3, if_pos ⟨rfl, rfl⟩]
      · rw [mI_2, f2.2.1 34 (by decide), mI_2, mI_2, mU_3, if_neg (fun z => absurd z.1 (by decide)), mU_3, if_pos ⟨rfl, rfl⟩]
      · exact g2
      · rw [mI_1, if_neg (by decide), f2.1 40 (by decide)]; rfl
      · rw [mI_2, f2.2.1 41 (by decide)]; rfl
    · refine ⟨mU (mU s 34 d (j + 1)) 33 d nx, ?_, ⟨fun x _ _ _ _ => rfl, fun x j1 j2 j3 j4 j5 j6 => ?_, rfl⟩, fun z => absurd z c2, fun _ => rfl⟩
      · rw [if_neg c2, if_neg c2]
        rfl
      · rw [mU_ne _ _ _ _ _ j3, mU_ne _ _ _ _ _ j4]
  · rw [if_pos (show 0 ≤ nx by omega), if_neg c, if_neg c]
    simp (disch := omega) only [↓mgi_31, mpf_31, mpf_38, mS_on, Option.bind_some, ↓zi_lit, zi_neg, zi_add, zi_sub, mU_1, zi_eq, ↓reduceIte, eq_self, Int.reduceNeg, hd, Model_behind_jn139, Model_behind_jn154, Model_behind_jn176, Model_behind_jn191, Model_behind_jn194, Model_behind_jn222]
    by_cases c2 : v p = 44
    · obtain ⟨s2, e2, f2, g2⟩ := sayCh_1 (m := m + 1) (h := h) (s := mI (mI (mU (mU s 34 d (j + 1)) 33 d nx) 31 (d + 1 - 0)) 38 2) (p := p) (v := v) (isV_of V rfl rfl rfl rfl rfl rfl) p0 p1 y0 (by show s.1 7 < _; omega) hsp
      have k17 : s2.2.2.1 17 n.toNat = 82 := by rw [f2.2.1 17 (by decide)]; exact hk
      have k38 : s2.1 38 = 2 := (f2.1 38 (by decide)).trans rfl
      refine ⟨mI s2 38 2, ?_, ⟨fun x j1 j2 j3 j4 => ?_, fun x j1 j2 j3 j4 j5 j6 => ?_, ?_⟩, fun _ => ⟨?_, ?_, fun x hx i hi => ?_, ?_, ?_, ?_, ?_, ?_, ?_⟩, fun z => absurd c2 z⟩
      · rw [if_pos c2, if_pos c2, pl_cv e2]
        simp (disch := omega) only [↓mgi_38, mpf_38, ↓mgr_17, mld_17, Option.bind_some, zi_eq, ↓reduceIte, Int.reduceEq, k17, k38]
        rfl
      · rw [mI_1, if_neg j3, f2.1 x j1, mI_1, if_neg j3, mI_1, if_neg j2, mU_1, mU_1]
      · rw [mI_2, f2.2.1 x j1, mI_2, mI_2, mU_ne _ _ _ _ _ j3, mU_ne _ _ _ _ _ j4]
      · rw [mI_2, f2.2.2]; rfl
      · rw [mI_1, if_neg (by decide), f2.1 31 (by decide), mI_1, if_neg (by decide), mI_1, if_pos rfl]; omega
      · rw [if_neg c]; rfl
      · rw [mI_2, f2.2.1 x (by omega), mI_2, mI_2, mU_3, mU_3, if_neg (by omega), if_neg (by omega)]
      · rw [mI_2, f2.2.1 32 (by decide)]; rfl
      · rw [mI_2, f2.2.1 33 (by decide), mI_2, mI_2, mU_3, if_pos ⟨rfl, rfl⟩]
      · rw [mI_2, f2.2.1 34 (by decide), mI_2, mI_2, mU_3, if_neg (fun z => absurd z.1 (by decide)), mU_3, if_pos ⟨rfl, rfl⟩]
      · exact g2
      · rw [mI_1, if_neg (by decide), f2.1 40 (by decide)]; rfl
      · rw [mI_2, f2.2.1 41 (by decide)]; rfl
    · refine ⟨mU (mU s 34 d (j + 1)) 33 d nx, ?_, ⟨fun x _ _ _ _ => rfl, fun x j1 j2 j3 j4 j5 j6 => ?_, rfl⟩, fun z => absurd z c2, fun _ => rfl⟩
      · rw [if_neg c2, if_neg c2]
        rfl
      · rw [mU_ne _ _ _ _ _ j3, mU_ne _ _ _ _ _ j4]
