theorem spElN_b (v f : Int → Int) : ∀ (k : Nat) (q : Int), spElN v f k q ≤ k
  | 0, _ => Nat.le_refl _
  | k + 1, q => by
    rw [spElN_s]
    have := spElN_b v f k (f q + 1)
    split <;> omega
theorem spFl_len (c ty : Int → Int) (lt : Int → Int → Int) : ∀ (k : Nat) (f : Int), (spFl c ty lt k f).length ≤ k
  | 0, _ => Nat.le_refl _
  | k + 1, f => by
    unfold spFl
    split
    · rw [List.length_cons]; exact Nat.succ_le_succ (spFl_len c ty lt k _)
    · simp
theorem spBl_len (c ty : Int → Int) : ∀ (k : Nat) (f : Int), (spBl c ty k f).length ≤ k
  | 0, _ => Nat.le_refl _
  | k + 1, f => by
    unfold spBl
    split
    · rw [List.length_cons]; exact Nat.succ_le_succ (spBl_len c ty k _)
    · simp
theorem spPt_len (c : Int → Int) : ∀ (D : Nat) (t : Int), (spPt c D t).length ≤ 6
  | 0, _ => Nat.zero_le _
  | D + 1, t => by
    rw [spPt_s]
    unfold spP1
    split
    · exact Nat.le_trans (spBl_len _ _ _ _) (by decide)
    · split
      · exact spFl_len _ _ _ _ _
      · exact Nat.zero_le _
theorem spVal_s (c v : Int → Int) (val : Bool) (D : Nat) : spVal c v val (D + 1) = spV1 c v val (spPt c (D + 1)) (spVal c v val D) := rfl
theorem spO_s (sp : Int) (c v : Int → Int) (val : Bool) (D : Nat) : spO sp c v val (D + 1) = spO1 sp c v val (spPt c (D + 1)) (spVal c v val D) (spO sp c v val D) := rfl
theorem spA_s (c v : Int → Int) (val : Bool) (D : Nat) : spA c v val (D + 1) = spA1 c v val (spPt c (D + 1)) (spVal c v val D) (spA c v val D) := rfl
theorem wsub (w x : Int) : w * (x - 2) = w * x - w * 2 := Int.mul_sub w x 2
theorem wadd (w x : Int) : (w + 2) * x = w * x + 2 * x := Int.add_mul w 2 x
set_option maxHeartbeats 1000000 in
/-- an array -/
theorem sim_arr {m : Nat} {h : ax_Hp} {c v : Int → Int} {val : Bool} (hv : ∀ p, 160 ≤ p → v p = 0) {D : Nat} (E : simE m h c v val D (re m h) (fun _ => True)) : simE m h c v val (D + 1) (rj m h) (fun t => c t = 65) := by
  intro s d q n t ok X hB hD N hel
  have X' := X
  obtain ⟨x1, x2, x3, x4, x5, x6, x7, x8, x9, x10⟩ := X
  obtain ⟨⟨l1, l2, l3, l4, l5⟩, N1, -, -⟩ := N
  have N1 := N1 ok
  have bt := x1.2.2.2.2 t
  have b := isV_b x3 q
  have b1 := isV_b x3 (q + 1)
  have eV : spVal c v val (D + 1) t q = if v q = 91 then (if v (q + 1) = 93 then q + 2 else spEl v (spVal c v val D (t + 1)) (mst val) (q + 1)) else -1 - q := by rw [spVal_s]; unfold spV1; rw [if_pos ok]; rfl
  have eO : spO (s.1 39) c v val (D + 1) t q = if v (q + 1) = 93 then (if s.1 39 = 1 then [0] else if s.1 39 = 2 then [91, 93] else []) else (if s.1 39 = 1 then [2 * (spElN v (spVal c v val D (t + 1)) (mst val) (q + 1) : Int)] else if s.1 39 = 2 then [91] else []) ++ (spElO (s.1 39) v (spVal c v val D (t + 1)) (spO (s.1 39) c v val D (t + 1)) (mst val) (q + 1) ++ (if s.1 39 = 1 then [0] else if s.1 39 = 2 then [93] else [])) := by rw [spO_s]; unfold spO1; rw [if_pos ok]
  have eA : spA c v val (D + 1) t q = if v (q + 1) = 93 then [0] else (spElN v (spVal c v val D (t + 1)) (mst val) (q + 1) : Int) :: spElA v (spVal c v val D (t + 1)) (spA c v val D (t + 1)) (mst val) (q + 1) := by rw [spA_s]; unfold spA1; rw [if_pos ok]
  rw [eA] at hel
  rw [eV, eO, eA]
  obtain ⟨H1, H2⟩ := Model_head_z (m := m) (h := h) (s := s) (v := v) (q := q) (d := d) (n := n) (k := 65) x3 x6 x7 (by omega) l1 l2 (l4.trans ok) (Or.inl rfl) x10.1 x10.2 x9.1 (by omega) x5
  rw [if_pos rfl] at H1 H2
  by_cases c1 : v q = 91
  · rw [if_pos c1]
    obtain ⟨s3, ⟨F3, f31, f38, f3st, f32, f33, f34, f3sd, f40, f41⟩, e3⟩ := H2 c1
    rw [if_pos rfl] at e3
    have lt0 : q < 160 := lt_of hv (by omega)
    have y39 := txF_39 F3
    have n3 := said_1 f3sd
    have n3l : ((if s.1 39 = 2 then [v q] else []).length : Int) ≤ 1 := by split <;> simp
    have N20 : mst val ≤ 20 := by unfold mst; split <;> decide
    have N1' : 0 < mst val := by unfold mst; split <;> decide
    have cb := spElN_b v (spVal c v val D (t + 1)) (mst val) (q + 1)
    -- the number that lies there on the second pass
    have hnum : s.1 39 = 1 → s.2.2.1 41 (s.1 40).toNat = if v (q + 1) = 93 then 0 else (spElN v (spVal c v val D (t + 1)) (mst val) (q + 1) : Int) := fun z => by
      have := hel z 0 (by split <;> simp)
      rw [show (s.1 40 + ((0 : Nat) : Int)).toNat = (s.1 40).toNat by omega] at this
      rw [this]
      split <;> rfl
    obtain ⟨s4, f4, g4, e4⟩ := Model_openList_z (m := m) (h := h) (s := s3) (v := v) (p := q + 1) (d := d) (txF_isV F3 x3) f31 x7 (by omega) (by omega) (by omega) (by omega) (by omega) (by omega) (by omega) (by omega) (fun z => by
      rw [f40, f41, hnum (by omega)]
      split <;> omega)
    rw [f40, f41, y39] at g4
    have n4 := said_1 g4
    have n4l : ((if s.1 39 = 1 ∧ 0 < s.2.2.1 41 (s.1 40).toNat then [2 * s.2.2.1 41 (s.1 40).toNat] else []).length : Int) ≤ 1 := by split <;> simp
    have F4 : txF s3 s4 := ⟨fun x j1 j2 j3 j4 => by rw [f4.1 x j1, mU_1, mU_1, mI_1, if_neg j4], fun x j1 j2 j3 j4 j5 j6 => by rw [f4.2.1 x j1, mU_ne _ _ _ _ _ j5, mU_ne _ _ _ _ _ j4, mI_2], by rw [f4.2.2]; rfl⟩
    have w31 : s4.1 31 = d + 1 := (f4.1 31 (by decide)).trans f31
    have w38 : s4.1 38 = 2 := (f4.1 38 (by decide)).trans f38
    have w40 : s4.1 40 = s.1 40 + 1 := by rw [f4.1 40 (by decide), mU_1, mU_1, mI_1, if_pos rfl, f40]
    have w41 : s4.2.2.1 41 = s.2.2.1 41 := by rw [f4.2.1 41 (by decide), mU_ne _ _ _ _ _ (by decide), mU_ne _ _ _ _ _ (by decide), mI_2, f41]
    have w35 : s4.2.2.1 35 d.toNat = s.1 40 := by rw [f4.2.1 35 (by decide), mU_3, if_pos ⟨rfl, rfl⟩, f40]
    have w34 : s4.2.2.1 34 d.toNat = 0 := by rw [f4.2.1 34 (by decide), mU_3, if_neg (fun z => absurd z.1 (by decide)), mU_3, if_pos ⟨rfl, rfl⟩]
    have w32 : s4.2.2.1 32 d.toNat = n := by rw [f4.2.1 32 (by decide), mU_ne _ _ _ _ _ (by decide), mU_ne _ _ _ _ _ (by decide), mI_2, f32]
    have w33 : s4.2.2.1 33 d.toNat = s.2.2.1 18 n.toNat := by rw [f4.2.1 33 (by decide), mU_ne _ _ _ _ _ (by decide), mU_ne _ _ _ _ _ (by decide), mI_2, f33]
    have st4 : stk d s s4 := fun x hx i hi => by
      rw [f4.2.1 x (by omega), mU_3, if_neg (by omega), mU_3, if_neg (by omega), mI_2]
      exact f3st x hx i hi
    have y4 : s4.1 39 = s.1 39 := (txF_39 F4).trans y39
    by_cases c2 : v (q + 1) = 93
    · -- no elements
      rw [if_pos c2] at e4
      simp only [if_pos c2]
      rw [if_pos c2] at hnum
      obtain ⟨s5, e5, F5, z31, z38, zst, zsd, z40, z41⟩ := Model_closeList_z (m := m) (h := h) (s := s4) (v := v) (p := q + 1) (d := d) (a := s.1 40) (k := 0) (txF_isV F4 (txF_isV F3 x3)) w31 x7 (by omega) w35 x8.1 (by omega) w34 (by omega) (by omega) (by omega) (by omega) (by omega)
      rw [y4] at zsd z41
      refine ⟨fun _ => ⟨0, s5, by omega, fun fuel => ?_, ⟨F3.trans (F4.trans F5), z31, z38, ?_, ?_, ?_⟩, ?_, ?_⟩, fun z => absurd z (by omega)⟩
      · unfold rj
        rw [e3, e4, e5, show q + 1 + 1 = q + 2 by omega]
        rfl
      · exact fun x hx i hi => (congrFun (zst x hx) i).trans (st4 x hx i hi)
      · have := f3sd.trans (g4.trans zsd)
        rw [c2] at this
        by_cases k1 : s.1 39 = 1
        · rw [if_neg (by omega), if_neg (fun z => by have := hnum k1; omega), if_pos k1] at this
          rw [if_pos k1]
          exact this
        · rw [if_neg (show ¬ (s.1 39 = 1 ∧ 0 < s.2.2.1 41 (s.1 40).toNat) from fun z => k1 z.1), if_neg k1] at this
          rw [if_neg k1]
          by_cases k2 : s.1 39 = 2
          · simp only [if_pos k2, c1] at this ⊢
            exact this
          · simp only [if_neg k2] at this ⊢
            exact this
      · refine ⟨by rw [z40, w40]; rfl, fun i hi => ?_, fun z j hj => ?_, fun z => ?_⟩
        · rw [z41]
          split
          · rw [w41]
          · show (if i = (s.1 40).toNat then 0 else s4.2.2.1 41 i) = _
            rw [if_neg (by omega), w41]
        · rw [List.length_singleton] at hj
          rw [z41, if_neg z, show (s.1 40 + (j : Int)).toNat = (s.1 40).toNat by omega, show j = 0 by omega]
          show (if (s.1 40).toNat = (s.1 40).toNat then (0 : Int) else _) = _
          rw [if_pos rfl]
          rfl
        · rw [z41, if_pos z, w41]
      · show 2 * ((1 : Nat) : Int) ≤ q + 2 - q
        omega
      · have : ((if s.1 39 = 1 then [(0 : Int)] else if s.1 39 = 2 then [91, 93] else []).length : Int) ≤ 2 := by split <;> (try split) <;> simp
        have e : (16 + 2 * ((D + 1 : Nat) : Int)) * (q + 2 - q) = 32 + 4 * ((D + 1 : Nat) : Int) := by rw [show q + 2 - q = 2 by omega]; omega
        rw [e]
        omega
    · -- elements
      rw [if_neg c2] at e4
      simp only [if_neg c2]
      rw [if_neg c2] at hel hnum
      have X4 : tcx c v val s4 (d + 1) (q + 1) := tcx_of X' (F3.trans F4) w31 (by omega) (by rw [w40]; omega) (by rw [n4, n3]; omega) (by omega)
      have hel4 : elh s4 (spElA v (spVal c v val D (t + 1)) (spA c v val D (t + 1)) (mst val) (q + 1)) := fun z j hj => by
        have := hel (by omega) (j + 1) (by rw [List.length_cons]; omega)
        rw [w41, w40, show (s.1 40 + 1 + (j : Int)).toNat = (s.1 40 + ((j + 1 : Nat) : Int)).toNat by omega, this]
        rfl
      obtain ⟨I1, I2⟩ := sim_els hv E (t := t) (cn := s.2.2.1 18 n.toNat) (a0 := s.1 40) l1 l2 (mst val) s4 d (q + 1) 0 X4 (by rw [n4, n3]; omega) x7 (by omega) w38 (by rw [txF_17 (F3.trans F4) (by decide) (by decide)]; exact l4.trans ok) w32 w33 w34 w35 x8.1 (by omega) (Nd_tx (F3.trans F4) N1) (by omega) (by omega) N1' hel4
      have run : ∀ fuel, rj m h fuel n q s = rt m h fuel (q + 1) s4 := fun fuel => by
        unfold rj
        rw [e3, e4]
        rfl
      have Be := spEl_b (f := spVal c v val D (t + 1)) hv (fun q a b => spVal_b hv D (t + 1) q a b) (mst val) (q + 1) (by omega) (by omega)
      unfold bd at Be
      refine ⟨fun z => ?_, fun z => ?_⟩
      · obtain ⟨k, s', i1, i2, i3, i4, i5, i6, i7, i8, i9, i10⟩ := I1 z
        rw [y4] at i7 i10
        have cp : 0 < spElN v (spVal c v val D (t + 1)) (mst val) (q + 1) := by
          obtain ⟨r, hr⟩ : ∃ r, mst val = r + 1 := ⟨mst val - 1, by omega⟩
          rw [hr, spElN_s]; omega
        refine ⟨k, s', by omega, fun fuel => by rw [run, i2], ⟨F3.trans (F4.trans i3), i4, i5, st4.trans i6, ?_, ?_⟩, ?_, ?_⟩
        · have := f3sd.trans (g4.trans i7)
          by_cases k1 : s.1 39 = 1
          · rw [if_neg (by omega), hnum k1, if_pos ⟨k1, by omega⟩] at this
            rw [if_pos k1]
            exact this
          · rw [if_neg (show ¬ (s.1 39 = 1 ∧ 0 < s.2.2.1 41 (s.1 40).toNat) from fun z => k1 z.1), List.nil_append, c1] at this
            rw [if_neg k1]
            exact this
        · obtain ⟨p1, p2, p3, p4⟩ := i8
          refine ⟨by rw [p1, w40, List.length_cons]; omega, fun i hi => ?_, fun y j hj => ?_, fun y => by rw [p4 (by omega), w41]⟩
          · rw [p2 i (by omega), if_neg (by omega), w41]
          · cases j with
            | zero =>
              have := p2 (s.1 40).toNat (by omega)
              rw [if_pos ⟨by omega, by omega⟩] at this
              rw [show (s.1 40 + ((0 : Nat) : Int)).toNat = (s.1 40).toNat by omega, this, Int.zero_add]
              rfl
            | succ j =>
              have := p3 (by omega) j (by rw [List.length_cons] at hj; omega)
              rw [show (s.1 40 + ((j + 1 : Nat) : Int)).toNat = (s4.1 40 + (j : Int)).toNat by omega, this]
              rfl
        · rw [List.length_cons]; omega
        · rw [List.length_append, List.length_append]
          have l1 : ((if s.1 39 = 1 then [2 * (spElN v (spVal c v val D (t + 1)) (mst val) (q + 1) : Int)] else if s.1 39 = 2 then [91] else []).length : Int) ≤ 1 := by split <;> (try split) <;> simp
          have l2 : ((if s.1 39 = 1 then [(0 : Int)] else if s.1 39 = 2 then [93] else []).length : Int) ≤ 1 := by split <;> (try split) <;> simp
          have e1 : (16 + 2 * (D : Int)) * (spEl v (spVal c v val D (t + 1)) (mst val) (q + 1) - (q + 1) - 1) = (16 + 2 * (D : Int)) * (spEl v (spVal c v val D (t + 1)) (mst val) (q + 1) - q) - (16 + 2 * (D : Int)) * 2 := by rw [show spEl v (spVal c v val D (t + 1)) (mst val) (q + 1) - (q + 1) - 1 = (spEl v (spVal c v val D (t + 1)) (mst val) (q + 1) - q) - 2 by omega, wsub]
          have e2 : (16 + 2 * ((D + 1 : Nat) : Int)) * (spEl v (spVal c v val D (t + 1)) (mst val) (q + 1) - q) = (16 + 2 * (D : Int)) * (spEl v (spVal c v val D (t + 1)) (mst val) (q + 1) - q) + 2 * (spEl v (spVal c v val D (t + 1)) (mst val) (q + 1) - q) := by rw [show (16 + 2 * ((D + 1 : Nat) : Int)) = (16 + 2 * (D : Int)) + 2 by omega, wadd]
          omega
      · obtain ⟨k, s', i1, i2, i3⟩ := I2 z
        exact ⟨k, s', by omega, fun fuel => by rw [run, i2], F3.trans (F4.trans i3.1), fun z0 => (i3.2 (y4.trans z0)).trans (by rw [if_neg (show ¬ (s.1 39 = 1 ∧ 0 < s.2.2.1 41 (s.1 40).toNat) from fun y => by omega), List.length_nil] at n4; rw [if_neg (show ¬ s.1 39 = 2 by omega), List.length_nil] at n3; omega)⟩
  · rw [if_neg c1]
    refine ⟨fun z => absurd z (by omega), fun _ => ⟨1, mI s 38 1, by omega, fun fuel => ?_, ⟨fun x j1 j2 j3 j4 => if_neg j3, fun _ _ _ _ _ _ _ => rfl, rfl⟩, fun _ => rfl⟩⟩
    unfold rj
    rw [H1 c1]
    exact rt_neg (by omega) (by omega)
