theorem Rn_297 {m : Nat} {h : ax_Hp} {s : mS} {c d : Int → Int} {P Q : Int → Int → Prop} {w : Int} {gl : List Int} {cr : Int → Int → Bool} {gv : Int → Int} (w0 : 0 ≤ w) (w1 : w < 240) (cb : ∀ x, 0 ≤ c x ∧ c x < 128) (hP : ∀ n x, P n x → 0 ≤ n ∧ n < 120 ∧ s.2.2.1 21 n.toNat = c x ∧ s.2.2.1 24 n.toNat = gv x ∧ -1 ≤ gv x ∧ gv x < 1000) (hQ : ∀ n x, Q n x → 120 ≤ n ∧ n < 240 ∧ s.2.2.1 21 n.toNat = d x ∧ 0 ≤ d x ∧ d x < 128) (hPQ : ∀ f x g y, P f x → Q g y → fbt s.2.2.2 f (g - 120) = cr x y) (C : ndCh (s.2.2.1 19) Q (s.2.2.1 18 w.toNat) gl) (h6 : gl.length ≤ 6) (hd : gl.Pairwise (fun x y => d x ≠ d y)) (g0 : ∀ x ∈ gl, 0 ≤ x) : ∀ (l : List Int) (b : Int) (all : Bool) (fuel : Nat), ndCh (s.2.2.1 19) P b l → l.length < fuel → Model_readsNode_lp297 (ax_F (m + 1)) fuel (some 24) (Int32.ofInt w) (Int32.ofInt (bI all)) (Int32.ofInt b) (mH h s) = some (.inl (some (ax_I (Int32.ofInt (bI (all && l.all (fun x => if fnd d (c x) gl = -1 then decide (gv x ≠ -1) else cr x (fnd d (c x) gl))))))), mH h s)
  | [], b, all, fuel, C, hf => by
    obtain ⟨fuel, rfl⟩ : ∃ g, fuel = g + 1 := ⟨fuel - 1, by omega⟩
    have hstep : Model_readsNode_lp297 (ax_F (m + 1)) (fuel + 1) = Model_readsNode_bd297 (ax_F (m + 1)) (Model_readsNode_lp297 (ax_F (m + 1)) fuel) := rfl
    have C : b = -1 := C
    subst C
    rw [hstep]
    unfold Model_readsNode_bd297 Model_readsNode_jn367
    rw [if_pos (show Int32.ofInt (-1) < 0 by decide), List.all_nil, Bool.and_true]
    exact za_rz (bI_01 _)
  | z :: l, b, all, fuel, C', hf => by
    obtain ⟨fuel, rfl⟩ : ∃ g, fuel = g + 1 := ⟨fuel - 1, by omega⟩
    have hstep : Model_readsNode_lp297 (ax_F (m + 1)) (fuel + 1) = Model_readsNode_bd297 (ax_F (m + 1)) (Model_readsNode_lp297 (ax_F (m + 1)) fuel) := rfl
    obtain ⟨c1, c2, c3, c4⟩ := C'
    obtain ⟨k1, k2, k3, k4, k5, k6⟩ := hP _ _ c3
    have cz := cb z
    rw [List.length_cons] at hf
    have I := fun w' => Rn_297 (m := m) (h := h) w0 w1 cb hP hQ hPQ C h6 hd g0 l _ w' fuel c4 (by omega)
    obtain ⟨g, f1, f2⟩ := Model_fieldOf_z (m := m) (h := h) (s := s) (d := d) (P := Q) (y := c z) (n := w) (l := gl) (fun n x q => ⟨(hQ n x q).2.2.1, (hQ n x q).2.2.2⟩) cz.1 cz.2 w0 w1 C h6 hd
    have no : (ax_gr (mH h s) (some 24) 9 19).bind (fun v21 => (ax_ldi (mH h s) v21 1 (Int32.ofInt b)).bind fun v22 => Model_readsNode_lp297 (ax_F (m + 1)) fuel (some 24) (Int32.ofInt w) 0 v22 (mH h s)) = some (.inl (some (ax_I (Int32.ofInt (bI false)))), mH h s) := by
      rw [mgr_19, Option.bind_some, mld_19 h s b c1 (by omega), Option.bind_some]
      have := I false
      rw [Bool.false_and] at this
      exact this
    have ye : (ax_gr (mH h s) (some 24) 9 19).bind (fun v21 => (ax_ldi (mH h s) v21 1 (Int32.ofInt b)).bind fun v22 => Model_readsNode_lp297 (ax_F (m + 1)) fuel (some 24) (Int32.ofInt w) 1 v22 (mH h s)) = some (.inl (some (ax_I (Int32.ofInt (bI (l.all (fun x => if fnd d (c x) gl = -1 then decide (gv x ≠ -1) else cr x (fnd d (c x) gl))))))), mH h s) := by
      rw [mgr_19, Option.bind_some, mld_19 h s b c1 (by omega), Option.bind_some]
      have := I true
      rw [Bool.true_and] at this
      exact this
    rw [hstep, List.all_cons]
    unfold Model_readsNode_bd297 Model_readsNode_jn353 Model_readsNode_jn349 Model_readsNode_jn354
    rw [if_neg (show ¬ Int32.ofInt b < 0 from zi_n0 c1 (by omega)), mgr_21, Option.bind_some, mld_21 h s b c1 (by omega), Option.bind_some, k3, mS_on, pl_ci f1]
    cases all with
    | false =>
      rw [if_pos (show Int32.ofInt (bI false) = 0 from rfl), Bool.false_and]
      exact no
    | true =>
      rw [if_neg (show ¬ Int32.ofInt (bI true) = 0 from by decide), Bool.true_and]
      rcases f2 with ⟨q1, q2⟩ | ⟨q1, q2, q3, q4, q5⟩ | ⟨_, _, _, x, x1, x2⟩
      · rw [if_pos q1, q2, if_pos (show Int32.ofInt (-1) < 0 by decide), mgr_24, Option.bind_some, mld_24 h s b c1 (by omega), Option.bind_some, k4]
        by_cases v : gv z = -1
        · rw [if_pos (show Int32.ofInt (gv z) < 0 from by rw [v]; decide), decide_eq_false (fun q => q v), Bool.false_and]
          exact no
        · rw [if_neg (show ¬ Int32.ofInt (gv z) < 0 from zi_n0 (by omega) (by omega)), decide_eq_true v, Bool.true_and]
          exact ye
      · obtain ⟨r1, r2, _⟩ := hQ _ _ q2
        have kn := Model_knows_z (m := m) (h := h) (s := s) (r := b) (k := g - 120) (by omega) (by omega) (by omega) (by omega)
        rw [show 120 + (g - 120) = g by omega, hPQ b z g _ c3 q2] at kn
        rw [if_neg q1, if_neg (show ¬ Int32.ofInt g < 0 from zi_n0 q3 (by omega)), mS_on, pl_ci kn]
        cases cr z (fnd d (c z) gl) with
        | false =>
          rw [if_pos (show Int32.ofInt (bI false) = 0 from rfl), Bool.false_and]
          exact no
        | true =>
          rw [if_neg (show ¬ Int32.ofInt (bI true) = 0 from by decide), Bool.true_and]
          exact ye
      · exact absurd (g0 x x1) (by omega)
theorem Rn_181 {m : Nat} {h : ax_Hp} {s : mS} {c d : Int → Int} {r w t u : Int} {K : Nat} (T0 : isT s 0 c) (T1 : isT s 1 d) (L1 : lfN s.2.2.1 c r t) (L2 : lfN s.2.2.1 d w u) (h1 : c t = 69) (h2 : d u = 69) (hK : K = spSy d (u + 2) 8 0) : ∀ (f j : Nat) (all : Bool) (fuel : Nat), j + f = K → f < fuel → Model_readsNode_lp181 (ax_F (m + 1)) fuel (some 24) (Int32.ofInt r) (Int32.ofInt w) (Int32.ofInt (bI all)) (Int32.ofInt j) (mH h s) = some (.inl (some (ax_I (Int32.ofInt (bI (all && (List.range' j f).all (fun j => decide (0 ≤ s.2.2.1 23 r.toNat) || decide (spIx c (t + 2) (d (u + 2 + (j : Int))) (spSy c (t + 2) 8 0) ≠ -1))))))), mH h s) := by
  have k8 := (spSy_k (c := d) (p := u + 2) 8 0).2.1
  have ksm := (spSy_k (c := d) (p := u + 2) 8 0).2.2
  rw [← hK] at k8 ksm
  obtain ⟨a1, a2, a3, a4, a5⟩ := L1
  obtain ⟨b1, b2, b3, b4, b5⟩ := L2
  obtain ⟨e1, e2, e3, e4⟩ := a5 h1
  obtain ⟨g1, g2, g3, g4⟩ := b5 h2
  have hu := T1.2.2.2.1
  have rg := fun x => spIx_r (c := c) (p := t + 2) (x := x) (spSy c (t + 2) 8 0)
  have kc := (spSy_k (c := c) (p := t + 2) 8 0).2.1
  intro f
  induction f with
  | zero =>
    intro j all fuel hj hf
    obtain ⟨fuel, rfl⟩ : ∃ g, fuel = g + 1 := ⟨fuel - 1, by omega⟩
    have hstep : Model_readsNode_lp181 (ax_F (m + 1)) (fuel + 1) = Model_readsNode_bd181 (ax_F (m + 1)) (Model_readsNode_lp181 (ax_F (m + 1)) fuel) := rfl
    rw [hstep]
    unfold Model_readsNode_bd181 Model_readsNode_jn367
    rw [mgr_20, Option.bind_some, mld_20 h s w b1 b2, Option.bind_some, g2, ← hK, if_pos (show Int32.ofInt K ≤ Int32.ofInt j from by rw [zi_le (by omega) (by omega) (by omega) (by omega)]; omega), show (List.range' j 0) = [] from rfl, List.all_nil, Bool.and_true]
    exact za_rz (bI_01 _)
  | succ f ih =>
    intro j all fuel hj hf
    obtain ⟨fuel, rfl⟩ : ∃ g, fuel = g + 1 := ⟨fuel - 1, by omega⟩
    have hstep : Model_readsNode_lp181 (ax_F (m + 1)) (fuel + 1) = Model_readsNode_bd181 (ax_F (m + 1)) (Model_readsNode_lp181 (ax_F (m + 1)) fuel) := rfl
    have sm := ksm j (by omega) (by omega)
    have lt := lt_of hu (q := u + 2 + j) (by omega)
    have I := fun w' => ih (j + 1) w' fuel (by omega) (by omega)
    have cpy := T1.2.2.1 (u + 2 + j) (by omega) lt
    have nb := T1.2.1
    rw [hstep, List.range'_succ, List.all_cons]
    unfold Model_readsNode_bd181 Model_readsNode_jn236 Model_readsNode_jn232 Model_readsNode_jn237
    rw [mgr_20, Option.bind_some, mld_20 h s w b1 b2, Option.bind_some, g2, ← hK, if_neg (show ¬ Int32.ofInt K ≤ Int32.ofInt j from by rw [zi_le (by omega) (by omega) (by omega) (by omega)]; omega), show (1 : Int32) = Int32.ofInt 1 from rfl, zi_add]
    have nx : (j : Int) + 1 = ((j + 1 : Nat) : Int) := by omega
    cases all with
    | false =>
      rw [if_pos (show Int32.ofInt (bI false) = 0 from rfl), Bool.false_and, nx]
      have := I false
      rw [Bool.false_and] at this
      exact this
    | true =>
      rw [if_neg (show ¬ Int32.ofInt (bI true) = 0 from by decide), mgr_23, Option.bind_some, mld_23 h s r a1 a2, Option.bind_some, Bool.true_and]
      have sb : -1 ≤ s.2.2.1 23 r.toNat ∧ s.2.2.1 23 r.toNat < 1000 := by
        rw [e3]
        have := rg (c (t + 2 + spSy c (t + 2) 8 0 + 1))
        split <;> omega
      by_cases st : 0 ≤ s.2.2.1 23 r.toNat
      · rw [if_pos (show 0 ≤ Int32.ofInt (s.2.2.1 23 r.toNat) from by rw [zi_0, zi_le (by omega) (by omega) (by omega) (by omega)]; exact st), nx]
        have := I true
        rw [Bool.true_and] at this
        rw [decide_eq_true st, Bool.true_or, Bool.true_and]
        rw [decide_eq_true st] at this
        exact this
      · have sy := eN_sym (m := m) (h := h) (x := d (u + 2 + j)) T0 (by decide) (by decide) ⟨a1, a2, a3, a4, a5⟩ h1 (by omega) (by omega)
        rw [if_neg (show ¬ 0 ≤ Int32.ofInt (s.2.2.1 23 r.toNat) from by rw [zi_0, zi_le (by omega) (by omega) (by omega) (by omega)]; exact st), mgr_14, Option.bind_some, mgr_22, Option.bind_some, mld_22 h s w b1 b2, Option.bind_some, g1, show (160 : Int32) = Int32.ofInt 160 from rfl, zi_add, zi_add, mld_14 h s _ (by omega) (by omega), Option.bind_some, show 160 + (u + 2) + (j : Int) = 160 * 1 + (u + 2 + j) by omega, cpy, mS_on, zi_0, pl_ci sy, decide_eq_false st, Bool.false_or]
        have rx := rg (d (u + 2 + j))
        rw [decide_eq_false st] at I
        by_cases z : spIx c (t + 2) (d (u + 2 + j)) (spSy c (t + 2) 8 0) = -1
        · rw [if_pos (show Int32.ofInt (spIx c (t + 2) (d (u + 2 + j)) (spSy c (t + 2) 8 0)) < Int32.ofInt 0 from by rw [z]; decide), decide_eq_false (fun q => q z), Bool.false_and, nx]
          have := I false
          rw [Bool.false_and] at this
          exact this
        · rw [if_neg (show ¬ Int32.ofInt (spIx c (t + 2) (d (u + 2 + j)) (spSy c (t + 2) 8 0)) < Int32.ofInt 0 from by rw [zi_lt (by omega) (by omega) (by omega) (by omega)]; omega), decide_eq_true z, Bool.true_and, nx]
          have := I true
          rw [Bool.true_and] at this
          exact this
