/-- what is kept from call to call -/
def kpF (s s' : mS) : Prop := (∀ k, k = 1 ∨ k = 3 ∨ k = 5 ∨ k = 9 → s'.1 k = s.1 k) ∧ (∀ k, k = 2 ∨ k = 4 ∨ k = 6 ∨ k = 10 ∨ k = 11 ∨ k = 12 ∨ k = 13 → s'.2.2.1 k = s.2.2.1 k)
theorem kpF_refl (s : mS) : kpF s s := ⟨fun _ _ => rfl, fun _ _ => rfl⟩
theorem kpF.trans {s s1 s2 : mS} (h : kpF s s1) (h1 : kpF s1 s2) : kpF s s2 := ⟨fun k a => (h1.1 k a).trans (h.1 k a), fun k a => (h1.2 k a).trans (h.2 k a)⟩
theorem kpF_I {s : mS} {k : Nat} {v : Int} (hk : k ≠ 1 ∧ k ≠ 3 ∧ k ≠ 5 ∧ k ≠ 9) : kpF s (mI s k v) := ⟨fun j hj => by rw [mI_1, if_neg (by omega)], fun _ _ => rfl⟩
theorem lxF.kp {s s' : mS} {tb : Int} (h : lxF s s' tb) : kpF s s' := ⟨fun k hk => h.1 k (by omega) (by omega) (by omega) (by omega) (by omega) (by omega) (by omega) (by omega), fun k hk => h.2.2.1 k (by omega) (by omega) (by omega) (by omega) (by omega) (by omega) (by omega) (by omega) (by omega) (by omega) (by omega)⟩
theorem txF.kp {s s' : mS} (h : txF s s') : kpF s s' := ⟨fun k hk => h.1 k (by omega) (by omega) (by omega) (by omega), fun k hk => h.2.1 k (by omega) (by omega) (by omega) (by omega) (by omega) (by omega)⟩
theorem rtS_kp {s : mS} {tb : Int} {val : Bool} : kpF s (rtS s tb val) := by
  unfold rtS
  exact ((((kpF_I (by decide)).trans (kpF_I (by decide))).trans (kpF_I (by decide))).trans (kpF_I (by decide))).trans (kpF_I (by decide))
theorem saysD_g : ∀ (L : List Int) (d : Int × (Nat → Int)), 0 ≤ d.1 → d.1 + L.length ≤ 420 → (∀ i : Nat, (i : Int) < d.1 → (saysD d L).2 i = d.2 i) ∧ ∀ j : Nat, j < L.length → (saysD d L).2 (d.1 + j).toNat = L.getD j 0
  | [], d, _, _ => ⟨fun _ _ => rfl, fun j hj => absurd hj (Nat.not_lt_zero _)⟩
  | x :: L, d, h0, h1 => by
    rw [List.length_cons] at h1
    have e : sayD d x = (d.1 + 1, fun m => if m = d.1.toNat then x else d.2 m) := by unfold sayD; rw [if_neg (by omega)]
    have ih := saysD_g L (sayD d x) (by rw [e]; show 0 ≤ d.1 + 1; omega) (by rw [e]; show d.1 + 1 + _ ≤ _; omega)
    have es : saysD d (x :: L) = saysD (sayD d x) L := rfl
    rw [es]
    refine ⟨fun i hi => ?_, fun j hj => ?_⟩
    · rw [ih.1 i (by rw [e]; show (i : Int) < d.1 + 1; omega), e]
      show (if i = d.1.toNat then x else d.2 i) = _
      rw [if_neg (by omega)]
    · cases j with
      | zero =>
        rw [ih.1 (d.1 + ((0 : Nat) : Int)).toNat (by rw [e]; show _ < d.1 + 1; omega), e]
        show (if (d.1 + ((0 : Nat) : Int)).toNat = d.1.toNat then x else _) = x
        rw [if_pos (by omega)]
      | succ j =>
        have := ih.2 j (by rw [List.length_cons] at hj; omega)
        rw [e] at this
        rw [e, show (d.1 + ((j + 1 : Nat) : Int)).toNat = ((d.1 + 1, fun m => if m = d.1.toNat then x else d.2 m).1 + (j : Int)).toNat from by show _ = (d.1 + 1 + (j : Int)).toNat; omega, this]
        rfl
theorem Model_keep_l {m : Nat} {h : ax_Hp} : ∀ (k : Nat) (s : mS) (i : Int) (fuel : Nat), 0 ≤ i → i + k = s.1 7 → s.1 7 ≤ 420 → k < fuel → ∃ s', Model_keep_lp2 (ax_F m) fuel (some 24) (Int32.ofInt i) (mH h s) = some (.inl (some (ax_I (Int32.ofInt (s.1 7)))), mH h s') ∧ (∀ j, j ≠ 5 → s'.1 j = s.1 j) ∧ s'.1 5 = s.1 7 ∧ s'.2.1 = s.2.1 ∧ s'.2.2.2 = s.2.2.2 ∧ (∀ j, j ≠ 6 → s'.2.2.1 j = s.2.2.1 j) ∧ (∀ q : Nat, s'.2.2.1 6 q = if i ≤ q ∧ (q : Int) < s.1 7 then s.2.2.1 8 q else s.2.2.1 6 q)
  | 0, s, i, fuel, i0, hi, h7, hf => by
    obtain ⟨fuel, rfl⟩ : ∃ g, fuel = g + 1 := ⟨fuel - 1, by omega⟩
    have hstep : Model_keep_lp2 (ax_F m) (fuel + 1) = Model_keep_bd2 (ax_F m) (Model_keep_lp2 (ax_F m) fuel) := rfl
    refine ⟨mI s 5 (s.1 7), ?_, fun j hj => if_neg hj, rfl, rfl, rfl, fun _ _ => rfl, fun q => (if_neg (by omega)).symm⟩
    rw [hstep]
    unfold Model_keep_bd2
    rw [mgi_7, Option.bind_some, if_pos (show Int32.ofInt (s.1 7) ≤ Int32.ofInt i from by rw [zi_le (by omega) (by omega) (by omega) (by omega)]; omega), Option.bind_some, mpf_5, Option.bind_some, mgi_5]
    rfl
  | k + 1, s, i, fuel, i0, hi, h7, hf => by
    obtain ⟨fuel, rfl⟩ : ∃ g, fuel = g + 1 := ⟨fuel - 1, by omega⟩
    have hstep : Model_keep_lp2 (ax_F m) (fuel + 1) = Model_keep_bd2 (ax_F m) (Model_keep_lp2 (ax_F m) fuel) := rfl
    obtain ⟨s', e2, r1, r2, r3, r4, r5, r6⟩ := Model_keep_l (m := m) (h := h) k (mU s 6 i (s.2.2.1 8 i.toNat)) (i + 1) fuel (by omega) (by show i + 1 + (k : Int) = s.1 7; omega) h7 (by omega)
    refine ⟨s', ?_, r1, r2, r3, r4, fun j hj => (r5 j hj).trans (mU_ne _ _ _ _ _ hj), fun q => ?_⟩
    · rw [hstep]
      unfold Model_keep_bd2
      rw [mgi_7, Option.bind_some, if_neg (show ¬ Int32.ofInt (s.1 7) ≤ Int32.ofInt i from by rw [zi_le (by omega) (by omega) (by omega) (by omega)]; omega), mgr_6, Option.bind_some, mgr_8, Option.bind_some, mld_8 _ _ _ i0 (by omega), Option.bind_some, mst_6 _ _ _ _ i0 (by omega), Option.bind_some, show (1 : Int32) = Int32.ofInt 1 from rfl, zi_add]
      exact e2
    · rw [r6 q, mU_1]
      by_cases c1 : i + 1 ≤ (q : Int) ∧ (q : Int) < s.1 7
      · rw [if_pos c1, if_pos (by omega), mU_ne _ _ _ _ _ (by decide)]
      · rw [if_neg c1, mU_3]
        by_cases c2 : q = i.toNat
        · rw [if_pos ⟨rfl, c2⟩, if_pos (by omega), c2]
        · rw [if_neg (fun z => c2 z.2), if_neg (by omega)]
theorem Model_keep_z {m : Nat} {h : ax_Hp} {s : mS} (h0 : 0 ≤ s.1 7) (h1 : s.1 7 ≤ 420) : ∃ s', ax_F (m + 1) 190 [ax_A (some 24)] (mH h s) = some (.inl (some (ax_I (Int32.ofInt (s.1 7)))), mH h s') ∧ (∀ j, j ≠ 5 → s'.1 j = s.1 j) ∧ s'.1 5 = s.1 7 ∧ (∀ j, j ≠ 6 → s'.2.2.1 j = s.2.2.1 j) ∧ (∀ q : Nat, (q : Int) < s.1 7 → s'.2.2.1 6 q = s.2.2.1 8 q) := by
  obtain ⟨s', e, r1, r2, r3, r4, r5, r6⟩ := Model_keep_l (m := m) (h := h) (s.1 7).toNat s 0 ax_fuel (by omega) (by omega) h1 (by unfold ax_fuel; omega)
  refine ⟨s', ?_, r1, r2, r5, fun q hq => by rw [r6 q, if_pos (by omega)]⟩
  rw [Model_keep_F]
  exact e
/-- the text that is typed is v -/
def tyT (s : mS) (n : Int) (v : Int → Int) : Prop := s.1 1 = n ∧ 0 ≤ n ∧ n ≤ 160 ∧ (∀ p : Int, 0 ≤ p → p < n → s.2.2.1 2 p.toNat = v p) ∧ (∀ p : Int, n ≤ p → v p = 0) ∧ (∀ p : Int, 0 ≤ v p ∧ v p < 128)
/-- version w of the reference is the text c, n characters -/
def veT (s : mS) (w n : Int) (c : Int → Int) : Prop := 0 ≤ w ∧ w < 24 ∧ s.2.2.1 13 w.toNat = n ∧ 0 ≤ n ∧ n ≤ 160 ∧ (∀ p : Int, 0 ≤ p → p < n → s.2.2.1 12 (160 * w + p).toNat = c p) ∧ (∀ p : Int, n ≤ p → c p = 0) ∧ (∀ p : Int, 0 ≤ c p ∧ c p < 128) ∧ spTy c 6 0 = n
def mB (s : mS) : Prop := (0 ≤ s.1 7 ∧ s.1 7 ≤ 1000000) ∧ (∀ i, 0 ≤ s.2.2.1 11 i ∧ s.2.2.1 11 i ≤ 6) ∧ (∀ i, 0 ≤ s.2.2.1 12 i ∧ s.2.2.1 12 i < 65536) ∧ (∀ i, 0 ≤ s.2.2.1 2 i ∧ s.2.2.1 2 i < 65536)
theorem rtS_X {s : mS} {c v : Int → Int} {nt : Int} (T : isT s 0 c) (Y : tyT s nt v) (h39 : 0 ≤ s.1 39 ∧ s.1 39 ≤ 2) (h7 : 0 ≤ s.1 7 ∧ s.1 7 ≤ 1000000) : tcx c v true (rtS s 0 true) 0 0 := by
  obtain ⟨y1, y2, y3, y4, y5, y6⟩ := Y
  refine ⟨isT_of T rfl rfl, Or.inl rfl, Or.inr ⟨rfl, ?_, ?_, ?_, ?_, y6⟩, rfl, h39, rfl, Int.le_refl _, by show (0 : Int) ≤ 0 ∧ 2 * 0 ≤ 0 + 0; omega, by show 0 ≤ s.1 7 ∧ s.1 7 + 40 * (200 - 0) ≤ 500000000; omega, by omega⟩
  · show 0 ≤ s.1 1; omega
  · show s.1 1 ≤ 160; omega
  · show ∀ p : Int, 0 ≤ p → p < s.1 1 → s.2.2.1 2 p.toNat = v p
    rw [y1]; exact y4
  · show ∀ p : Int, s.1 1 ≤ p → v p = 0
    rw [y1]; exact y5
set_option maxHeartbeats 4000000 in
/-- the reference encodes as the text says -/
theorem Model_encode_y {m : Nat} {h : ax_Hp} {s : mS} {c v : Int → Int} {z w n nt : Int} (z0 : -2147483648 ≤ z) (z1 : z < 2147483648) (w0 : -2147483648 ≤ w) (w1 : w < 2147483648) (B : mB s) (hv : vOk z w (s.2.2.1 11)) (VT : veT s (6 * z + w) n c) (Y : tyT s nt v) (hL : spVal c v true 6 0 0 = nt → (spO 1 c v true 6 0 0).length ≤ 160) :
    (spVal c v true 6 0 0 = nt → ∃ s', ax_F (m + 11) 192 [ax_A (some 24), ax_I (Int32.ofInt z), ax_I (Int32.ofInt w)] (mH h s) = some (.inl (some (ax_I (Int32.ofInt (spO 1 c v true 6 0 0).length))), mH h s') ∧ s'.1 0 = 0 ∧ s'.1 1 = 0 ∧ s'.1 3 = s.1 3 ∧ s'.1 5 = (spO 1 c v true 6 0 0).length ∧ s'.1 9 = -1 ∧ (0 ≤ s'.1 7 ∧ s'.1 7 ≤ 1000000) ∧ (∀ k, k = 2 ∨ k = 4 ∨ k = 10 ∨ k = 11 ∨ k = 12 ∨ k = 13 → s'.2.2.1 k = s.2.2.1 k) ∧ ∀ j : Nat, j < (spO 1 c v true 6 0 0).length → s'.2.2.1 6 j = (spO 1 c v true 6 0 0).getD j 0) ∧
    (spVal c v true 6 0 0 ≠ nt → ∃ s', ax_F (m + 11) 192 [ax_A (some 24), ax_I (Int32.ofInt z), ax_I (Int32.ofInt w)] (mH h s) = some (.inl (some (ax_I 0)), mH h s') ∧ s'.1 0 = 1 ∧ s'.1 1 = s.1 1 ∧ s'.1 3 = s.1 3 ∧ s'.1 5 = s.1 5 ∧ s'.1 9 = (if 0 ≤ spVal c v true 6 0 0 then spVal c v true 6 0 0 else -1 - spVal c v true 6 0 0) ∧ (0 ≤ s'.1 7 ∧ s'.1 7 ≤ 1000000) ∧ (∀ k, k = 2 ∨ k = 4 ∨ k = 6 ∨ k = 10 ∨ k = 11 ∨ k = 12 ∨ k = 13 → s'.2.2.1 k = s.2.2.1 k)) := by
  obtain ⟨B1, B2, B3, B4⟩ := B
  obtain ⟨t1, t2, t3, t4, t5, t6, t7, t8, t9⟩ := VT
  obtain ⟨u1, u2, u3, u4⟩ := hv
  have Y' := Y
  obtain ⟨y1, y2, y3, y4, y5, y6⟩ := Y
  have hv : ∀ p, 160 ≤ p → v p = 0 := fun p hp => y5 p (by omega)
  -- the schema is loaded
  obtain ⟨s2, e2, lx, T2, n2, d39, P2, O2, d7, -⟩ := Model_load_z (m := m) (h := h) (s := mI s 0 0) (c := c) (tb := 0) (n := n) (w := 6 * z + w) (Or.inl rfl) t1 t2 B1 t3 t4 t5 t6 t7 t8 B3 t9
  have k2 : kpF s s2 := (kpF_I (k := 0) (v := 0) (by decide)).trans lx.kp
  have d7' : s2.1 7 = s.1 7 := d7
  obtain ⟨s3, hs3⟩ : ∃ s3, s3 = mI s2 39 0 := ⟨_, rfl⟩
  have k3 : kpF s s3 := by rw [hs3]; exact k2.trans (kpF_I (by decide))
  have a39 : s3.1 39 = 0 := by rw [hs3]; rfl
  have a7 : s3.1 7 = s.1 7 := by rw [hs3]; exact d7'
  have a0 : s3.1 0 = 0 := by rw [hs3]; exact (lx.1 0 (by decide) (by decide) (by decide) (by decide) (by decide) (by decide) (by decide) (by decide)).trans rfl
  have T3 : isT s3 0 c := by rw [hs3]; exact isT_of T2 rfl rfl
  have N3 : Nd s3.2.2.1 c 6 0 0 := by rw [hs3]; exact NdS_Nd 6 0 0 (by have := P2.2.2; omega) P2.1
  have Y3 : tyT s3 nt v := ⟨(k3.1 1 (by omega)).trans y1, y2, y3, by rw [k3.2 2 (by omega)]; exact y4, y5, y6⟩
  have X3 := rtS_X T3 Y3 (by omega) (by omega)
  obtain ⟨R1, R2⟩ := Model_readText_z (m := m + 3) (h := h) (s := s3) (c := c) (v := v) (val := true) (tb := 0) (n := 0) (t := 0) (q := 0) (D := 6) hv X3 (by rw [a7]; omega) (by omega) N3 (fun y => absurd y (by show ¬ s3.1 39 = 1; omega))
  have Be := spVal_b (c := c) (val := true) hv 6 0 0 (by omega) (by omega)
  unfold bd at Be
  have gt := fun y => spVal_gt (c := c) (val := true) (N := nt) y5 6 0 0 (by omega) (by omega) y
  have pre : ∀ s4 : mS, ax_F (m + 10) 156 [ax_A (some 24), ax_I 0, ax_I 0, ax_I 0, ax_I 1] (mH h s3) = some (.inl (some (ax_I (Int32.ofInt (spVal c v true 6 0 0)))), mH h s4) → s4.1 1 = nt → ax_F (m + 11) 192 [ax_A (some 24), ax_I (Int32.ofInt z), ax_I (Int32.ofInt w)] (mH h s) = if nt ≤ spVal c v true 6 0 0 then (ax_ci (ax_F (m + 10) 156 [ax_A (some 24), ax_I 0, ax_I 0, ax_I 0, ax_I 1] (mH h (mI (mI s4 7 0) 39 1))) fun v14 h13 => (ax_pf h13 (some 24) 9 39 (ax_I 0)).bind fun h15 => (ax_pf h15 (some 24) 9 1 (ax_I 0)).bind fun h16 => (ax_pf h16 (some 24) 9 9 (ax_I (-1))).bind fun h17 => ax_on h17 (some 24) 9 <| ax_ci (ax_F (m + 10) 190 [ax_A (some 24)] h17) fun v19 h18 => ax_ri v19 h18) else (some (.inl (some (ax_I 0)), mH h (mI (mI s4 9 (if 0 ≤ spVal c v true 6 0 0 then spVal c v true 6 0 0 else -1 - spVal c v true 6 0 0)) 0 1))) := by
    intro s4 e4 f1
    generalize spVal c v true 6 0 0 = e at *
    rw [Model_encode_F]
    unfold Model_encode_b
    rw [mS_on, pl_ci (Model_isVersion_y z0 z1 w0 w1 B2 ⟨u1, u2, u3, u4⟩), if_neg (show ¬ Int32.ofInt 1 = 0 from by decide)]
    unfold Model_encode_jn15
    rw [show ax_pf (mH h s) (some 24) 9 0 (ax_I 0) = some (mH h (mI s 0 0)) from mpf_0 h s 0, Option.bind_some, mgi_0, Option.bind_some, if_pos (show Int32.ofInt ((mI s 0 0).1 0) ≤ 0 from by show Int32.ofInt 0 ≤ 0; decide), mS_on, show (6 : Int32) * Int32.ofInt z + Int32.ofInt w = Int32.ofInt (6 * z + w) from by rw [show (6 : Int32) = Int32.ofInt 6 from rfl, zi_mul, zi_add], pl_cv (show ax_F (m + 10) 180 [ax_A (some 24), ax_I 0, ax_I (Int32.ofInt (6 * z + w))] (mH h (mI s 0 0)) = _ from e2), show ax_pf (mH h s2) (some 24) 9 39 (ax_I 0) = some (mH h s3) from by rw [hs3]; exact mpf_39 h s2 0, Option.bind_some, mS_on, pl_ci e4, mgi_1, Option.bind_some, f1]
    by_cases c1 : nt ≤ e
    · rw [if_pos (show Int32.ofInt nt ≤ Int32.ofInt e from by rw [zi_le (by omega) (by omega) (by omega) (by omega)]; exact c1), if_pos c1, show ax_pf (mH h s4) (some 24) 9 7 (ax_I 0) = some (mH h (mI s4 7 0)) from mpf_7 h s4 0, Option.bind_some, show ax_pf (mH h (mI s4 7 0)) (some 24) 9 39 (ax_I 1) = some (mH h (mI (mI s4 7 0) 39 1)) from mpf_39 h _ 1, Option.bind_some, mS_on]
    · rw [if_neg (show ¬ Int32.ofInt nt ≤ Int32.ofInt e from by rw [zi_le (by omega) (by omega) (by omega) (by omega)]; exact c1), if_neg c1]
      unfold Model_encode_jn72
      by_cases c2 : 0 ≤ e
      · rw [if_pos (show (0 : Int32) ≤ Int32.ofInt e from by rw [zi_0, zi_le (by omega) (by omega) (by omega) (by omega)]; exact c2), if_pos c2, mpf_9, Option.bind_some, show ax_pf (mH h (mI s4 9 e)) (some 24) 9 0 (ax_I 1) = some (mH h (mI (mI s4 9 e) 0 1)) from mpf_0 h _ 1, Option.bind_some]
        rfl
      · rw [if_neg (show ¬ (0 : Int32) ≤ Int32.ofInt e from by rw [zi_0, zi_le (by omega) (by omega) (by omega) (by omega)]; exact c2), if_neg c2, show (-1 : Int32) - Int32.ofInt e = Int32.ofInt (-1 - e) from by rw [show (-1 : Int32) = Int32.ofInt (-1) from rfl, zi_sub], mpf_9, Option.bind_some, show ax_pf (mH h (mI s4 9 (-1 - e))) (some 24) 9 0 (ax_I 1) = some (mH h (mI (mI s4 9 (-1 - e)) 0 1)) from mpf_0 h _ 1, Option.bind_some]
        rfl
  have fail : ∀ s4 : mS, ax_F (m + 10) 156 [ax_A (some 24), ax_I 0, ax_I 0, ax_I 0, ax_I 1] (mH h s3) = some (.inl (some (ax_I (Int32.ofInt (spVal c v true 6 0 0)))), mH h s4) → kpF s s4 → s4.1 7 = s.1 7 → ¬ nt ≤ spVal c v true 6 0 0 → ∃ s', ax_F (m + 11) 192 [ax_A (some 24), ax_I (Int32.ofInt z), ax_I (Int32.ofInt w)] (mH h s) = some (.inl (some (ax_I 0)), mH h s') ∧ s'.1 0 = 1 ∧ s'.1 1 = s.1 1 ∧ s'.1 3 = s.1 3 ∧ s'.1 5 = s.1 5 ∧ s'.1 9 = (if 0 ≤ spVal c v true 6 0 0 then spVal c v true 6 0 0 else -1 - spVal c v true 6 0 0) ∧ (0 ≤ s'.1 7 ∧ s'.1 7 ≤ 1000000) ∧ (∀ k, k = 2 ∨ k = 4 ∨ k = 6 ∨ k = 10 ∨ k = 11 ∨ k = 12 ∨ k = 13 → s'.2.2.1 k = s.2.2.1 k) := by
    intro s4 e4 k4 f7 ne
    have := pre s4 e4 ((k4.1 1 (by omega)).trans y1)
    rw [if_neg ne] at this
    exact ⟨_, this, rfl, k4.1 1 (by omega), k4.1 3 (by omega), k4.1 5 (by omega), rfl, by show 0 ≤ s4.1 7 ∧ s4.1 7 ≤ _; omega, k4.2⟩
  refine ⟨fun he => ?_, fun he => ?_⟩
  · obtain ⟨s4, e4, F, f31, f38, fst, fsd, fel⟩ := R1 (by omega)
    have k4 : kpF s s4 := k3.trans (rtS_kp.trans F.kp)
    have P4 := pre s4 e4 ((k4.1 1 (by omega)).trans y1)
    rw [if_pos (by omega)] at P4
    obtain ⟨s5, hs5⟩ : ∃ s5, s5 = mI (mI s4 7 0) 39 1 := ⟨_, rfl⟩
    have k5 : kpF s s5 := by rw [hs5]; exact (k4.trans (kpF_I (by decide))).trans (kpF_I (by decide))
    have a17 : ∀ k, 14 ≤ k → k ≤ 25 → s5.2.2.1 k = s3.2.2.1 k := fun k h1 h2 => by rw [hs5]; exact txF_17 F h1 h2
    have T5 : isT s5 0 c := isT_of T3 (a17 15 (by decide) (by decide)) (a17 14 (by decide) (by decide))
    have N5 : Nd s5.2.2.1 c 6 0 0 := Nd_of (fun k h1 h2 => a17 k h1 h2) 6 0 0 N3
    have Y5 : tyT s5 nt v := ⟨(k5.1 1 (by omega)).trans y1, y2, y3, by rw [k5.2 2 (by omega)]; exact y4, y5, y6⟩
    have b39 : s5.1 39 = 1 := by rw [hs5]; rfl
    have b7 : s5.1 7 = 0 := by rw [hs5]; rfl
    have hel : elh (rtS s5 0 true) (spA c v true 6 0 0) := fun _ j hj => by
      have := fel.2.2.1 (show ¬ s3.1 39 = 1 by omega) j hj
      rw [hs5]
      exact this
    obtain ⟨Q1, -⟩ := Model_readText_z (m := m + 3) (h := h) (s := s5) (c := c) (v := v) (val := true) (tb := 0) (n := 0) (t := 0) (q := 0) (D := 6) hv (rtS_X T5 Y5 (by omega) (by omega)) (by rw [b7]; omega) (by omega) N5 hel
    obtain ⟨s6, e6, G, -, -, -, gsd, -⟩ := Q1 (by omega)
    rw [b39] at gsd
    have hl := hL he
    generalize spO 1 c v true 6 0 0 = L at *
    have k6 : kpF s s6 := k5.trans (rtS_kp.trans G.kp)
    have c7 : s6.1 7 = L.length := by
      have := said_1 gsd
      rw [show (rtS s5 0 true).1 7 = s5.1 7 from rfl, b7] at this
      omega
    have c8 : ∀ j : Nat, j < L.length → s6.2.2.1 8 j = L.getD j 0 := fun j hj => by
      have g := congrArg Prod.snd gsd
      have := (saysD_g L ((rtS s5 0 true).1 7, (rtS s5 0 true).2.2.1 8) (by show 0 ≤ s5.1 7; omega) (by show s5.1 7 + _ ≤ _; omega)).2 j hj
      rw [← g, show ((rtS s5 0 true).1 7 + (j : Int)).toNat = j from by show (s5.1 7 + (j : Int)).toNat = j; omega] at this
      exact this
    rw [← hs5, pl_ci (show ax_F (m + 10) 156 [ax_A (some 24), ax_I 0, ax_I 0, ax_I 0, ax_I 1] (mH h s5) = _ from e6), show ax_pf (mH h s6) (some 24) 9 39 (ax_I 0) = some (mH h (mI s6 39 0)) from mpf_39 h _ 0, Option.bind_some, show ax_pf (mH h (mI s6 39 0)) (some 24) 9 1 (ax_I 0) = some (mH h (mI (mI s6 39 0) 1 0)) from mpf_1 h _ 0, Option.bind_some, show ax_pf (mH h (mI (mI s6 39 0) 1 0)) (some 24) 9 9 (ax_I (-1)) = some (mH h (mI (mI (mI s6 39 0) 1 0) 9 (-1))) from mpf_9 h _ (-1), Option.bind_some, mS_on] at P4
    obtain ⟨s7, hs7⟩ : ∃ s7, s7 = mI (mI (mI s6 39 0) 1 0) 9 (-1) := ⟨_, rfl⟩
    have g7 : s7.1 7 = L.length := by rw [hs7]; exact c7
    obtain ⟨s8, e8, r1, r2, r5, r6⟩ := Model_keep_z (m := m + 9) (h := h) (s := s7) (by omega) (by omega)
    rw [← hs7, pl_ci e8, g7] at P4
    refine ⟨s8, P4, ?_, ?_, ?_, ?_, ?_, ?_, fun k hk => ?_, fun j hj => ?_⟩
    · rw [r1 0 (by decide), hs7]
      show s6.1 0 = 0
      rw [G.1 0 (by decide) (by decide) (by decide) (by decide)]
      show s5.1 0 = 0
      rw [hs5]
      show s4.1 0 = 0
      rw [F.1 0 (by decide) (by decide) (by decide) (by decide)]
      exact a0
    · rw [r1 1 (by decide), hs7]; rfl
    · rw [r1 3 (by decide), hs7]; exact k6.1 3 (by omega)
    · rw [r2, g7]
    · rw [r1 9 (by decide), hs7]; rfl
    · rw [r1 7 (by decide), g7]; omega
    · rw [r5 k (by omega), hs7]; exact k6.2 k (by omega)
    · rw [r6 j (by omega), hs7]; exact c8 j hj
  · by_cases c1 : 0 ≤ spVal c v true 6 0 0
    · obtain ⟨s4, e4, F, f31, f38, fst, fsd, fel⟩ := R1 c1
      have := gt c1
      exact fail s4 e4 (k3.trans (rtS_kp.trans F.kp)) ((sd0 fsd a39).trans a7) (by omega)
    · obtain ⟨s4, e4, F, F0⟩ := R2 (by omega)
      exact fail s4 e4 (k3.trans (rtS_kp.trans F.kp)) ((F0 a39).trans a7) (by omega)
