theorem Model_branch_l {m : Nat} {h : ax_Hp} {s : mS} {P : Int → Int → Prop} {num : Int} : ∀ (r : Nat) (l : List Int) (b : Int) (fuel : Nat), ndCh (s.2.2.1 19) P b l → r < l.length → (r : Int) ≤ num → num < 1000 → r < fuel → ∃ b', Model_branch_lp10 (ax_F m) fuel (some 24) (Int32.ofInt num) (Int32.ofInt b) (Int32.ofInt (num - r)) (mH h s) = some (.inl (some (ax_I (Int32.ofInt b'))), mH h s) ∧ 0 ≤ b' ∧ b' < 240 ∧ P b' (l.getD r 0)
  | 0, [], b, fuel, C, hr, h1, h2, hf => absurd hr (Nat.not_lt_zero _)
  | 0, x :: l, b, fuel, C, hr, h1, h2, hf => by
    obtain ⟨fuel, rfl⟩ : ∃ g, fuel = g + 1 := ⟨fuel - 1, by omega⟩
    have hstep : Model_branch_lp10 (ax_F m) (fuel + 1) = Model_branch_bd10 (ax_F m) (Model_branch_lp10 (ax_F m) fuel) := rfl
    refine ⟨b, ?_, C.1, C.2.1, C.2.2.1⟩
    rw [hstep]
    unfold Model_branch_bd10
    simp (disch := omega) only [zi_le]
    rw [if_pos (by omega)]
    rfl
  | r + 1, [], b, fuel, C, hr, h1, h2, hf => absurd hr (Nat.not_lt_zero _)
  | r + 1, x :: l, b, fuel, C, hr, h1, h2, hf => by
    obtain ⟨fuel, rfl⟩ : ∃ g, fuel = g + 1 := ⟨fuel - 1, by omega⟩
    have hstep : Model_branch_lp10 (ax_F m) (fuel + 1) = Model_branch_bd10 (ax_F m) (Model_branch_lp10 (ax_F m) fuel) := rfl
    obtain ⟨c1, c2, c3, c4⟩ := C
    obtain ⟨b', e, r1, r2, r3⟩ := Model_branch_l (m := m) (h := h) r l (s.2.2.1 19 b.toNat) fuel c4 (by rw [List.length_cons] at hr; omega) (by omega) h2 (by omega)
    refine ⟨b', ?_, r1, r2, r3⟩
    rw [hstep]
    unfold Model_branch_bd10
    simp (disch := omega) only [↓mgr_19, mld_19, Option.bind_some, ↓zi_lit, zi_add, zi_le]
    rw [if_neg (by omega), show num - ((r + 1 : Nat) : Int) + 1 = num - (r : Int) by omega]
    exact e
theorem Model_branch_z {m : Nat} {h : ax_Hp} {s : mS} {P : Int → Int → Prop} {n num : Int} {l : List Int} (n0 : 0 ≤ n) (n1 : n < 240) (C : ndCh (s.2.2.1 19) P (s.2.2.1 18 n.toNat) l) (u0 : 0 ≤ num) (u1 : num < l.length) (u2 : num < 1000) : ∃ b', ax_F (m + 1) 161 [ax_A (some 24), ax_I (Int32.ofInt n), ax_I (Int32.ofInt num)] (mH h s) = some (.inl (some (ax_I (Int32.ofInt b'))), mH h s) ∧ 0 ≤ b' ∧ b' < 240 ∧ P b' (l.getD num.toNat 0) := by
  rw [Model_branch_F]
  unfold Model_branch_b
  simp (disch := omega) only [↓mgr_18, mld_18, Option.bind_some, ↓zi_lit]
  obtain ⟨b', e, r⟩ := Model_branch_l (m := m) (h := h) (num := num) num.toNat l _ ax_fuel C (by omega) (by omega) (by omega) (by unfold ax_fuel; omega)
  rw [show num - ((num.toNat : Nat) : Int) = 0 by omega] at e
  exact ⟨b', e, r⟩
/-- the frame is made -/
def hdP (s s3 : mS) (d n : Int) (o : List Int) : Prop := txF s s3 ∧ s3.1 31 = d + 1 ∧ s3.1 38 = 2 ∧ stk d s s3 ∧ s3.2.2.1 32 d.toNat = n ∧ s3.2.2.1 33 d.toNat = s.2.2.1 18 n.toNat ∧ s3.2.2.1 34 d.toNat = 0 ∧ said s s3 o ∧ s3.1 40 = s.1 40 ∧ s3.2.2.1 41 = s.2.2.1 41
theorem Model_head_z {m : Nat} {h : ax_Hp} {s : mS} {v : Int → Int} {q d n k : Int} (V : isV s v) (hd : s.1 31 = d) (d0 : 0 ≤ d) (d1 : d < 9) (n0 : 0 ≤ n) (n1 : n < 240) (hk : s.2.2.1 17 n.toNat = k) (hk2 : k = 65 ∨ k = 82) (q0 : 0 ≤ q) (q1 : q ≤ 160) (y0 : 0 ≤ s.1 7) (y1 : s.1 7 < 600000000) (hsp : 0 ≤ s.1 39 ∧ s.1 39 ≤ 2) :
    (v q ≠ (if k = 65 then 91 else 123) → Model_enter_jn142 (ax_F (m + 5)) (some 24) (Int32.ofInt n) (Int32.ofInt q) (mH h s) = some (.inl (some (ax_I (Int32.ofInt (-1 - q)))), mH h (mI s 38 1))) ∧
    (v q = (if k = 65 then 91 else 123) → ∃ s3, hdP s s3 d n (if s.1 39 = 2 then [v q] else []) ∧ Model_enter_jn142 (ax_F (m + 5)) (some 24) (Int32.ofInt n) (Int32.ofInt q) (mH h s) = if k = 65 then ax_ci (ax_F (m + 5) 168 [ax_A (some 24), ax_I (Int32.ofInt (q + 1))] (mH h s3)) (fun v29 h28 => ax_ri v29 h28) else some (.inl (some (ax_I (Int32.ofInt (q + 1)))), mH h s3)) := by
  have b := isV_b V q
  have V1 : isV (mI s 38 1) v := isV_of V rfl rfl rfl rfl rfl rfl
  have see := Model_see_z (n := m + 3) (h := h) V1 q0 (by omega)
  have pre : Model_enter_jn142 (ax_F (m + 5)) (some 24) (Int32.ofInt n) (Int32.ofInt q) (mH h s) = Model_enter_jn201 (ax_F (m + 5)) (some 24) (Int32.ofInt n) (Int32.ofInt q) (Int32.ofInt (if k = 65 then 91 else 123)) (Int32.ofInt (v q)) (mH h (mI s 38 1)) := by
    unfold Model_enter_jn142 Model_enter_jn177
    simp (disch := omega) only [mpf_38, ↓mgr_17, mld_17, mS_on, Option.bind_some, ↓zi_lit, mI_2, zi_eq, hk]
    rw [pl_ci see]
    simp (disch := omega) only [↓mgr_17, mld_17, Option.bind_some, mI_2, zi_eq, hk]
    rcases hk2 with e | e
    · subst e; rfl
    · subst e; rfl
  rw [pre]
  unfold Model_enter_jn201
  have kb : 0 ≤ (if k = 65 then (91 : Int) else 123) ∧ (if k = 65 then (91 : Int) else 123) < 128 := by split <;> omega
  refine ⟨fun c => ?_, fun c => ?_⟩
  · rw [if_neg (show ¬ Int32.ofInt (v q) = Int32.ofInt (if k = 65 then 91 else 123) from by rw [zi_eq (by omega) (by omega) (by omega) (by omega)]; exact c), show (-1 : Int32) = Int32.ofInt (-1) from rfl, zi_sub]
    rfl
  · obtain ⟨s2, e2, f2, g2⟩ := sayCh_1 (m := m + 2) (h := h) (s := mI s 38 1) (p := q) V1 q0 (by omega) y0 (by show s.1 7 < _; omega) hsp
    have z31 : s2.1 31 = d := (f2.1 31 (by decide)).trans hd
    have z18 : s2.2.2.1 18 = s.2.2.1 18 := f2.2.1 18 (by decide)
    have z17 : s2.2.2.1 17 = s.2.2.1 17 := f2.2.1 17 (by decide)
    refine ⟨mI (mI (mU (mU (mU s2 32 d n) 33 d (s.2.2.1 18 n.toNat)) 34 d 0) 31 (d + 1)) 38 2, ⟨⟨fun x j1 j2 j3 j4 => ?_, fun x j1 j2 j3 j4 j5 j6 => ?_, ?_⟩, rfl, rfl, fun x hx i hi => ?_, ?_, ?_, ?_, ?_, ?_, ?_⟩, ?_⟩
    · rw [mI_1, if_neg j3, mI_1, if_neg j2, mU_1, mU_1, mU_1, f2.1 x j1, mI_1, if_neg j3]
    · rw [mI_2, mI_2, mU_ne _ _ _ _ _ j4, mU_ne _ _ _ _ _ j3, mU_ne _ _ _ _ _ j2, f2.2.1 x j1, mI_2]
    · rw [mI_2, mI_2, mU_4, mU_4, mU_4, f2.2.2, mI_2]
    · rw [mI_2, mI_2, mU_3, if_neg (by omega), mU_3, if_neg (by omega), mU_3, if_neg (by omega), f2.2.1 x (by omega), mI_2]
    · rw [mI_2, mI_2, mU_3, if_neg (fun z => absurd z.1 (by decide)), mU_3, if_neg (fun z => absurd z.1 (by decide)), mU_3, if_pos ⟨rfl, rfl⟩]
    · rw [mI_2, mI_2, mU_3, if_neg (fun z => absurd z.1 (by decide)), mU_3, if_pos ⟨rfl, rfl⟩]
    · rw [mI_2, mI_2, mU_3, if_pos ⟨rfl, rfl⟩]
    · exact g2
    · rw [mI_1, if_neg (by decide), mI_1, if_neg (by decide), mU_1, mU_1, mU_1, f2.1 40 (by decide), mI_1, if_neg (by decide)]
    · rw [mI_2, mI_2, mU_ne _ _ _ _ _ (by decide), mU_ne _ _ _ _ _ (by decide), mU_ne _ _ _ _ _ (by decide), f2.2.1 41 (by decide), mI_2]
    · rw [if_pos (show Int32.ofInt (v q) = Int32.ofInt (if k = 65 then 91 else 123) from by rw [c]), mS_on, show (1 : Int32) = Int32.ofInt 1 from rfl, zi_add, pl_cv e2]
      simp (disch := omega) only [↓mgi_31, mpf_31, mpf_38, ↓mgr_17, ↓mgr_18, ↓mgr_32, ↓mgr_33, ↓mgr_34, mld_17, mld_18, mst_32, mst_33, mst_34, mS_on, Option.bind_some, ↓zi_lit, zi_add, mI_2, mU_1, mU_3, zi_eq, ↓reduceIte, Nat.reduceEqDiff, false_and, z31, z18, z17, hk]
      rcases hk2 with e | e
      · subst e; rfl
      · subst e; rfl
