theorem Model_adm_0 {m : Nat} {h : ax_Hp} {s : mS} {z cnt j : Int} {fuel : Nat} (hf : 0 < fuel) : Model_register_lp133 (ax_F m) fuel (some 24) (Int32.ofInt z) (Int32.ofInt cnt) (Int32.ofInt 0) (Int32.ofInt j) (mH h s) = Model_register_jn169 (ax_F m) (some 24) (Int32.ofInt z) (Int32.ofInt cnt) (Int32.ofInt 0) (mH h s) := by
  obtain ⟨fuel, rfl⟩ : ∃ g, fuel = g + 1 := ⟨fuel - 1, by omega⟩
  have hstep : Model_register_lp133 (ax_F m) (fuel + 1) = Model_register_bd133 (ax_F m) (Model_register_lp133 (ax_F m) fuel) := rfl
  rw [hstep]
  unfold Model_register_bd133
  by_cases q : Int32.ofInt cnt ≤ Int32.ofInt j
  · rw [if_pos q]
  · rw [if_neg q, if_pos (show Int32.ofInt 0 = 0 from rfl)]
theorem Model_adm_l {m cnt : Nat} {h : ax_Hp} {z n mode : Int} {ln : Nat → Int} {cs : Nat → Int → Int} {v : Int → Int} (z0 : 0 ≤ z) (z1 : z ≤ 3) (h6 : cnt ≤ 6) (ok : spTy v 6 0 = n) (m0 : 0 ≤ mode) (m1 : mode ≤ 6) : ∀ (r j fuel : Nat) (s : mS), mB s → s.2.2.1 10 z.toNat = mode → (∀ j : Nat, j < cnt → veT s (6 * z + j) (ln j) (cs j)) → tyT s n v → j + r = cnt → r + 1 < fuel → ∃ s', Model_register_lp133 (ax_F (m + 11)) fuel (some 24) (Int32.ofInt z) (Int32.ofInt cnt) (Int32.ofInt 1) (Int32.ofInt j) (mH h s) = Model_register_jn169 (ax_F (m + 11)) (some 24) (Int32.ofInt z) (Int32.ofInt cnt) (Int32.ofInt (bI (allB (fun j => gon (md3 mode) (crd v (cs j) 13 6 6 0 0) (crd (cs j) v 13 6 6 0 0)) r j))) (mH h s') ∧ kpF s s' ∧ s'.1 7 = s.1 7 ∧ s'.1 0 = s.1 0
  | 0, j, fuel, s, B, hm, V, Y, hj, hf => by
    obtain ⟨fuel, rfl⟩ : ∃ g, fuel = g + 1 := ⟨fuel - 1, by omega⟩
    have hstep : Model_register_lp133 (ax_F (m + 11)) (fuel + 1) = Model_register_bd133 (ax_F (m + 11)) (Model_register_lp133 (ax_F (m + 11)) fuel) := rfl
    refine ⟨s, ?_, kpF_refl s, rfl, rfl⟩
    rw [hstep]
    unfold Model_register_bd133
    rw [if_pos (show Int32.ofInt cnt ≤ Int32.ofInt j from by rw [zi_le (by omega) (by omega) (by omega) (by omega)]; omega)]
    rfl
  | r + 1, j, fuel, s, B, hm, V, Y, hj, hf => by
    obtain ⟨fuel, rfl⟩ : ∃ g, fuel = g + 1 := ⟨fuel - 1, by omega⟩
    have hstep : Model_register_lp133 (ax_F (m + 11)) (fuel + 1) = Model_register_bd133 (ax_F (m + 11)) (Model_register_lp133 (ax_F (m + 11)) fuel) := rfl
    obtain ⟨s1, e1, k1, a7, a0⟩ := Model_getsOn_z (m := m) (h := h) (s := s) (mode := mode) B (V j (by omega)) Y ok m0 m1
    have st : Model_register_lp133 (ax_F (m + 11)) (fuel + 1) (some 24) (Int32.ofInt z) (Int32.ofInt cnt) (Int32.ofInt 1) (Int32.ofInt j) (mH h s) = Model_register_lp133 (ax_F (m + 11)) fuel (some 24) (Int32.ofInt z) (Int32.ofInt cnt) (Int32.ofInt (bI (gon (md3 mode) (crd v (cs j) 13 6 6 0 0) (crd (cs j) v 13 6 6 0 0)))) (Int32.ofInt ((j + 1 : Nat) : Int)) (mH h s1) := by
      rw [hstep]
      unfold Model_register_bd133
      rw [if_neg (show ¬ Int32.ofInt cnt ≤ Int32.ofInt j from by rw [zi_le (by omega) (by omega) (by omega) (by omega)]; omega), if_neg (show ¬ Int32.ofInt 1 = 0 from by decide), mgr_10, Option.bind_some, mld_10 _ _ _ z0 (by omega), Option.bind_some, hm, mS_on, show (6 : Int32) = Int32.ofInt 6 from rfl, zi_mul, zi_add, pl_ci e1, show (1 : Int32) = Int32.ofInt 1 from rfl, zi_add, show (j : Int) + 1 = ((j + 1 : Nat) : Int) by omega]
    rw [st]
    have ea : allB (fun j => gon (md3 mode) (crd v (cs j) 13 6 6 0 0) (crd (cs j) v 13 6 6 0 0)) (r + 1) j = (gon (md3 mode) (crd v (cs j) 13 6 6 0 0) (crd (cs j) v 13 6 6 0 0) && allB (fun j => gon (md3 mode) (crd v (cs j) 13 6 6 0 0) (crd (cs j) v 13 6 6 0 0)) r (j + 1)) := rfl
    rw [ea]
    cases gon (md3 mode) (crd v (cs j) 13 6 6 0 0) (crd (cs j) v 13 6 6 0 0) with
    | false =>
      rw [Bool.false_and]
      exact ⟨s1, Model_adm_0 (m := m + 11) (h := h) (s := s1) (by omega), k1, a7, a0⟩
    | true =>
      rw [Bool.true_and]
      obtain ⟨s2, e2, k2, b7, b0⟩ := Model_adm_l (m := m) (h := h) (ln := ln) (cs := cs) z0 z1 h6 ok m0 m1 r (j + 1) fuel s1 (kp_mb k1 a7 B) (by rw [k1.2 10 (by omega)]; exact hm) (fun j hj => kp_ve k1 (V j hj)) (kp_ty k1 Y) (by omega) (by omega)
      exact ⟨s2, e2, k1.trans k2, b7.trans a7, b0.trans a0⟩
theorem Model_reg_l {m cnt : Nat} {h : ax_Hp} {z n : Int} (z0 : 0 ≤ z) (z1 : z ≤ 3) (h6 : cnt < 6) (n1 : n ≤ 160) : ∀ (k : Nat) (s : mS) (i : Int) (fuel : Nat), 0 ≤ i → i + k = n → s.1 1 = n → (∀ i, 0 ≤ s.2.2.1 2 i ∧ s.2.2.1 2 i < 65536) → s.2.2.1 11 z.toNat = cnt → k < fuel → ∃ s', Model_register_lp199 (ax_F m) fuel (some 24) (Int32.ofInt z) (Int32.ofInt cnt) (Int32.ofInt i) (mH h s) = Model_register_jn249 (ax_F m) (some 24) (Int32.ofInt cnt) (mH h s') ∧ s'.1 = s.1 ∧ (∀ j, j ≠ 11 → j ≠ 12 → s'.2.2.1 j = s.2.2.1 j) ∧ (∀ q : Nat, s'.2.2.1 11 q = if q = z.toNat then (cnt : Int) + 1 else s.2.2.1 11 q) ∧ (∀ q : Nat, s'.2.2.1 12 q = if 160 * (6 * z + cnt) + i ≤ q ∧ (q : Int) < 160 * (6 * z + cnt) + n then s.2.2.1 2 ((q : Int) - 160 * (6 * z + cnt)).toNat else s.2.2.1 12 q)
  | 0, s, i, fuel, i0, hi, hn, hb, hc, hf => by
    obtain ⟨fuel, rfl⟩ : ∃ g, fuel = g + 1 := ⟨fuel - 1, by omega⟩
    have hstep : Model_register_lp199 (ax_F m) (fuel + 1) = Model_register_bd199 (ax_F m) (Model_register_lp199 (ax_F m) fuel) := rfl
    refine ⟨mU s 11 z ((cnt : Int) + 1), ?_, rfl, fun j j1 j2 => mU_ne _ _ _ _ _ j1, fun q => ?_, fun q => ?_⟩
    · rw [hstep]
      unfold Model_register_bd199
      rw [mgi_1, Option.bind_some, hn, if_pos (show Int32.ofInt n ≤ Int32.ofInt i from by rw [zi_le (by omega) (by omega) (by omega) (by omega)]; omega), mgr_11, Option.bind_some, mld_11 _ _ _ z0 (by omega), Option.bind_some, hc, show (1 : Int32) = Int32.ofInt 1 from rfl, zi_add, mst_11 _ _ _ _ z0 (by omega), Option.bind_some]
    · rw [mU_3]
      by_cases q1 : q = z.toNat
      · rw [if_pos ⟨rfl, q1⟩, if_pos q1]
      · rw [if_neg (fun w => q1 w.2), if_neg q1]
    · rw [if_neg (by omega), mU_ne _ _ _ _ _ (by decide)]
  | k + 1, s, i, fuel, i0, hi, hn, hb, hc, hf => by
    obtain ⟨fuel, rfl⟩ : ∃ g, fuel = g + 1 := ⟨fuel - 1, by omega⟩
    have hstep : Model_register_lp199 (ax_F m) (fuel + 1) = Model_register_bd199 (ax_F m) (Model_register_lp199 (ax_F m) fuel) := rfl
    have bi := hb i.toNat
    obtain ⟨s', e2, r1, r2, r3, r4⟩ := Model_reg_l (m := m) (h := h) z0 z1 h6 n1 k (mU s 12 (160 * (6 * z + cnt) + i) (s.2.2.1 2 i.toNat)) (i + 1) fuel (by omega) (by omega) hn (by rw [mU_ne _ _ _ _ _ (by decide)]; exact hb) (by rw [mU_ne _ _ _ _ _ (by decide)]; exact hc) (by omega)
    refine ⟨s', ?_, r1, fun j j1 j2 => (r2 j j1 j2).trans (mU_ne _ _ _ _ _ j2), fun q => ?_, fun q => ?_⟩
    · rw [hstep]
      unfold Model_register_bd199
      rw [mgi_1, Option.bind_some, hn, if_neg (show ¬ Int32.ofInt n ≤ Int32.ofInt i from by rw [zi_le (by omega) (by omega) (by omega) (by omega)]; omega), mgr_12, Option.bind_some, mgr_2, Option.bind_some, mld_2 _ _ _ i0 (by omega), Option.bind_some, show (6 : Int32) = Int32.ofInt 6 from rfl, show (160 : Int32) = Int32.ofInt 160 from rfl, zi_mul, zi_add, zi_mul, zi_add, mstc_12 _ _ _ _ (by omega) (by omega) bi.1 bi.2, Option.bind_some, show (1 : Int32) = Int32.ofInt 1 from rfl, zi_add]
      exact e2
    · rw [r3 q, mU_ne _ _ _ _ _ (by decide)]
    · rw [r4 q, mU_ne _ 12 2 _ _ (by decide)]
      by_cases q1 : 160 * (6 * z + cnt) + (i + 1) ≤ (q : Int) ∧ (q : Int) < 160 * (6 * z + cnt) + n
      · rw [if_pos q1, if_pos (by omega)]
      · rw [if_neg q1, mU_3]
        by_cases q2 : q = (160 * (6 * z + cnt) + i).toNat
        · rw [if_pos ⟨rfl, q2⟩, if_pos (by omega), show ((q : Int) - 160 * (6 * z + cnt)).toNat = i.toNat by omega]
        · rw [if_neg (fun w => q2 w.2), if_neg (by omega)]
/-- what register leaves alone -/
def rgF (s s' : mS) : Prop := s'.1 3 = s.1 3 ∧ s'.1 5 = s.1 5 ∧ (0 ≤ s'.1 7 ∧ s'.1 7 ≤ 1000000) ∧ (∀ k, k = 2 ∨ k = 4 ∨ k = 6 ∨ k = 10 → s'.2.2.1 k = s.2.2.1 k)
set_option maxHeartbeats 4000000 in
/-- the reference registers as the text says -/
theorem Model_register_y {m cnt : Nat} {h : ax_Hp} {s : mS} {z n mode : Int} {ln : Nat → Int} {cs : Nat → Int → Int} {v : Int → Int} (z0 : 0 ≤ z) (z1 : z ≤ 3) (B : mB s) (hc : s.2.2.1 11 z.toNat = cnt) (hm : s.2.2.1 10 z.toNat = mode) (m0 : 0 ≤ mode) (m1 : mode ≤ 6) (V : ∀ j : Nat, j < cnt → veT s (6 * z + j) (ln j) (cs j)) (Y : tyT s n v) (k : Nat) (K : fstP (fun j => teq (ln j) (cs j) n v) cnt k) :
    (spTy v 6 0 ≠ n → ∃ s', ax_F (m + 13) 151 [ax_A (some 24), ax_I (Int32.ofInt z)] (mH h s) = some (.inl (some (ax_I 0)), mH h s') ∧ rgF s s' ∧ s'.1 0 = 1 ∧ s'.1 1 = s.1 1 ∧ s'.1 9 = (if 0 ≤ spTy v 6 0 then spTy v 6 0 else -1 - spTy v 6 0) ∧ (∀ k, k = 11 ∨ k = 12 ∨ k = 13 → s'.2.2.1 k = s.2.2.1 k)) ∧
    (spTy v 6 0 = n → k < cnt → ∃ s', ax_F (m + 13) 151 [ax_A (some 24), ax_I (Int32.ofInt z)] (mH h s) = some (.inl (some (ax_I (Int32.ofInt k))), mH h s') ∧ rgF s s' ∧ s'.1 0 = 0 ∧ s'.1 1 = 0 ∧ s'.1 9 = -1 ∧ (∀ k, k = 11 ∨ k = 12 ∨ k = 13 → s'.2.2.1 k = s.2.2.1 k)) ∧
    (spTy v 6 0 = n → ¬ k < cnt → adm cnt mode (fun j => gon (md3 mode) (crd v (cs j) 13 6 6 0 0) (crd (cs j) v 13 6 6 0 0)) = false → ∃ s', ax_F (m + 13) 151 [ax_A (some 24), ax_I (Int32.ofInt z)] (mH h s) = some (.inl (some (ax_I 0)), mH h s') ∧ rgF s s' ∧ s'.1 0 = 2 ∧ s'.1 1 = s.1 1 ∧ s'.1 9 = s.1 9 ∧ (∀ k, k = 11 ∨ k = 12 ∨ k = 13 → s'.2.2.1 k = s.2.2.1 k)) ∧
    (spTy v 6 0 = n → ¬ k < cnt → adm cnt mode (fun j => gon (md3 mode) (crd v (cs j) 13 6 6 0 0) (crd (cs j) v 13 6 6 0 0)) = true → ∃ s', ax_F (m + 13) 151 [ax_A (some 24), ax_I (Int32.ofInt z)] (mH h s) = some (.inl (some (ax_I (Int32.ofInt cnt))), mH h s') ∧ rgF s s' ∧ s'.1 0 = 0 ∧ s'.1 1 = 0 ∧ s'.1 9 = -1 ∧ (∀ q : Nat, s'.2.2.1 11 q = if q = z.toNat then (cnt : Int) + 1 else s.2.2.1 11 q) ∧ (∀ q : Nat, s'.2.2.1 13 q = if q = (6 * z + cnt).toNat then n else s.2.2.1 13 q) ∧ (∀ q : Nat, s'.2.2.1 12 q = if 160 * (6 * z + cnt) ≤ q ∧ (q : Int) < 160 * (6 * z + cnt) + n then s.2.2.1 2 ((q : Int) - 160 * (6 * z + cnt)).toNat else s.2.2.1 12 q)) := by
  have nn : 0 ≤ n ∧ n ≤ 160 := ⟨Y.2.1, Y.2.2.1⟩
  have c6 : cnt ≤ 6 := by have := (B.2.1 z.toNat).2; omega
  obtain ⟨y1, y2, y3, y4, y5, y6⟩ := Y
  obtain ⟨s1, e1, lx, T1, -, -, q1⟩ := Model_loadTyped_z (m := m + 2) (h := h) (s := mI s 0 0) (c := v) (tb := 0) (n := n) (Or.inl rfl) B.1 y1 y2 y3 y4 y5 y6 B.2.2.2
  have k1 : kpF s s1 := (kpF_I (k := 0) (v := 0) (by decide)).trans lx.kp
  have a7 : s1.1 7 = s.1 7 := lx.1 7 (by decide) (by decide) (by decide) (by decide) (by decide) (by decide) (by decide) (by decide)
  have a0 : s1.1 0 = 0 := lx.1 0 (by decide) (by decide) (by decide) (by decide) (by decide) (by decide) (by decide) (by decide)
  have rg : ∀ {t : mS}, kpF s t → (0 ≤ t.1 7 ∧ t.1 7 ≤ 1000000) → rgF s t := fun q r => ⟨q.1 3 (by omega), q.1 5 (by omega), r, fun k hk => q.2 k (by omega)⟩
  have Bd := spTy_b (c := v) (fun q hq => y5 q (by omega)) 6 0 (by omega) (by omega)
  unfold bd at Bd
  have pre : ax_F (m + 13) 151 [ax_A (some 24), ax_I (Int32.ofInt z)] (mH h s) = if spRes v n < 0 then Model_register_lp49 (ax_F (m + 12)) ax_fuel (some 24) (Int32.ofInt z) (Int32.ofInt ((0 : Nat) : Int)) (mH h s1) else some (.inl (some (ax_I 0)), mH h (mI (mI s1 9 (spRes v n)) 0 1)) := by
    have rb : -1000 ≤ spRes v n ∧ spRes v n ≤ 1000 := by
      unfold spRes
      split
      · split <;> omega
      · omega
    rw [Model_register_F]
    unfold Model_register_b
    rw [pl_ci (Model_isSubject_z (by omega) (by omega)), if_pos (show 0 ≤ z ∧ z ≤ 3 from ⟨z0, z1⟩), if_neg (show ¬ Int32.ofInt 1 = 0 from by decide)]
    unfold Model_register_jn13
    rw [show ax_pf (mH h s) (some 24) 9 0 (ax_I 0) = some (mH h (mI s 0 0)) from mpf_0 h s 0, Option.bind_some, mgi_0, Option.bind_some, if_pos (show Int32.ofInt ((mI s 0 0).1 0) ≤ 0 from by show Int32.ofInt 0 ≤ 0; decide), mS_on, pl_ci (show ax_F (m + 12) 152 [ax_A (some 24), ax_I 0] (mH h (mI s 0 0)) = _ from e1)]
    generalize spRes v n = r at *
    by_cases q : r < 0
    · rw [if_pos (show Int32.ofInt r < 0 from by rw [zi_0, zi_lt (by omega) (by omega) (by omega) (by omega)]; exact q), if_pos q]
      rfl
    · rw [if_neg (show ¬ Int32.ofInt r < 0 from by rw [zi_0, zi_lt (by omega) (by omega) (by omega) (by omega)]; exact q), if_neg q, mpf_9, Option.bind_some, show ax_pf (mH h (mI s1 9 r)) (some 24) 9 0 (ax_I 1) = some (mH h (mI (mI s1 9 r) 0 1)) from mpf_0 h _ 1, Option.bind_some]
      rfl
  refine ⟨fun no => ?_, (fun (M : spTy v 6 0 = n → (k < cnt → _) ∧ (¬ k < cnt → (_ → _) ∧ (_ → _))) => ⟨fun ok lt => (M ok).1 lt, fun ok ge no => ((M ok).2 ge).1 no, fun ok ge yes => ((M ok).2 ge).2 yes⟩) (fun ok => ?_)⟩
  · have rs : spRes v n = if 0 ≤ spTy v 6 0 then spTy v 6 0 else -1 - spTy v 6 0 := by
      unfold spRes
      rw [if_neg no]
    have rp : 0 ≤ spRes v n := by rw [rs]; split <;> omega
    rw [if_neg (by omega)] at pre
    refine ⟨_, pre, ⟨k1.1 3 (by omega), k1.1 5 (by omega), ?_, fun k hk => k1.2 k (by omega)⟩, rfl, k1.1 1 (by omega), rs, fun k hk => k1.2 k (by omega)⟩
    show 0 ≤ s1.1 7 ∧ s1.1 7 ≤ 1000000
    rw [a7]; exact B.1
  have V1 : ∀ j : Nat, j < cnt → veT s1 (6 * z + j) (ln j) (cs j) := fun j hj => kp_ve k1 (V j hj)
  have Y1 : tyT s1 n v := kp_ty k1 ⟨y1, y2, y3, y4, y5, y6⟩
  have B1 : mB s1 := kp_mb k1 a7 B
  have hc1 : s1.2.2.1 11 z.toNat = cnt := by rw [k1.2 11 (by omega)]; exact hc
  have hm1 : s1.2.2.1 10 z.toNat = mode := by rw [k1.2 10 (by omega)]; exact hm
  rw [if_pos (by rw [spRes_ok ok nn.1]; decide), Model_num_l (m := m + 11) (h := h) z0 z1 hc1 c6 V1 Y1 K k 0 ax_fuel (by omega) (by have := K.1; unfold ax_fuel; omega)] at pre
  obtain ⟨K1, K2, K3⟩ := K
  unfold Model_register_jn78 at pre
  rw [mgr_11, Option.bind_some, mld_11 _ _ _ z0 (by omega), Option.bind_some, hc1] at pre
  refine ⟨fun lt => ?_, fun ge => ?_⟩
  · rw [if_neg (show ¬ Int32.ofInt k = Int32.ofInt cnt from by rw [zi_eq (by omega) (by omega) (by omega) (by omega)]; omega)] at pre
    unfold Model_register_jn249 at pre
    rw [show ax_pf (mH h s1) (some 24) 9 1 (ax_I 0) = some (mH h (mI s1 1 0)) from mpf_1 h _ 0, Option.bind_some, show ax_pf (mH h (mI s1 1 0)) (some 24) 9 9 (ax_I (-1)) = some (mH h (mI (mI s1 1 0) 9 (-1))) from mpf_9 h _ (-1), Option.bind_some] at pre
    refine ⟨_, pre, ⟨k1.1 3 (by omega), k1.1 5 (by omega), ?_, fun k hk => k1.2 k (by omega)⟩, a0, rfl, rfl, fun k hk => k1.2 k (by omega)⟩
    show 0 ≤ s1.1 7 ∧ s1.1 7 ≤ 1000000
    rw [a7]; exact B.1
  have hk : k = cnt := by omega
  rw [hk, if_pos rfl] at pre
  -- the loop over the versions
  have lp : ∃ s2, ax_F (m + 13) 151 [ax_A (some 24), ax_I (Int32.ofInt z)] (mH h s) = Model_register_jn169 (ax_F (m + 12)) (some 24) (Int32.ofInt z) (Int32.ofInt cnt) (Int32.ofInt (bI (adm cnt mode (fun j => gon (md3 mode) (crd v (cs j) 13 6 6 0 0) (crd (cs j) v 13 6 6 0 0))))) (mH h s2) ∧ kpF s s2 ∧ s2.1 7 = s.1 7 ∧ s2.1 0 = 0 := by
    have j9 : ∀ f : Int32, Model_register_jn99 (ax_F (m + 12)) (some 24) (Int32.ofInt z) (Int32.ofInt cnt) f (mH h s1) = Model_register_lp133 (ax_F (m + 12)) ax_fuel (some 24) (Int32.ofInt z) (Int32.ofInt cnt) f (Int32.ofInt (stJ cnt mode)) (mH h s1) := fun f => by
      unfold Model_register_jn99 stJ Model_register_jn118 Model_register_jn131
      rw [mgr_10, Option.bind_some, mld_10 _ _ _ z0 (by omega), Option.bind_some, hm1]
      by_cases q : 3 < mode
      · rw [if_neg (show ¬ Int32.ofInt mode ≤ 3 from by rw [show (3 : Int32) = Int32.ofInt 3 from rfl, zi_le (by omega) (by omega) (by omega) (by omega)]; omega), if_pos (show (0 : Int32) ≤ 0 from by decide), if_pos q]
        rfl
      · rw [if_pos (show Int32.ofInt mode ≤ 3 from by rw [show (3 : Int32) = Int32.ofInt 3 from rfl, zi_le (by omega) (by omega) (by omega) (by omega)]; omega), if_neg q, show (1 : Int32) = Int32.ofInt 1 from rfl, zi_sub]
        by_cases q2 : cnt = 0
        · rw [if_neg (show ¬ (0 : Int32) ≤ Int32.ofInt ((cnt : Int) - 1) from by rw [zi_0, zi_le (by omega) (by omega) (by omega) (by omega)]; omega), q2]
          rfl
        · rw [if_pos (show (0 : Int32) ≤ Int32.ofInt ((cnt : Int) - 1) from by rw [zi_0, zi_le (by omega) (by omega) (by omega) (by omega)]; omega), show (cnt : Int) - 1 = ((cnt - 1 : Nat) : Int) by omega]
    have sj : stJ cnt mode ≤ cnt := by unfold stJ; split <;> omega
    unfold adm
    by_cases q : cnt < 6
    · rw [if_neg (show ¬ (6 : Int32) ≤ Int32.ofInt cnt from by rw [show (6 : Int32) = Int32.ofInt 6 from rfl, zi_le (by omega) (by omega) (by omega) (by omega)]; omega), j9] at pre
      obtain ⟨s2, e2, k2, b7, b0⟩ := Model_adm_l (m := m + 1) (h := h) (ln := ln) (cs := cs) z0 z1 c6 ok m0 m1 (cnt - stJ cnt mode) (stJ cnt mode) ax_fuel s1 B1 hm1 V1 Y1 (by omega) (by unfold ax_fuel; omega)
      rw [decide_eq_true q, Bool.true_and]
      exact ⟨s2, pre.trans e2, k1.trans k2, b7.trans a7, b0.trans a0⟩
    · rw [if_pos (show (6 : Int32) ≤ Int32.ofInt cnt from by rw [show (6 : Int32) = Int32.ofInt 6 from rfl, zi_le (by omega) (by omega) (by omega) (by omega)]; omega), j9] at pre
      rw [decide_eq_false q, Bool.false_and]
      exact ⟨s1, pre.trans (Model_adm_0 (m := m + 12) (h := h) (s := s1) (z := z) (cnt := cnt) (j := (stJ cnt mode : Nat)) (fuel := ax_fuel) (by unfold ax_fuel; omega)), k1, a7, a0⟩
  obtain ⟨s2, e2, k2, b7, b0⟩ := lp
  have b7' : 0 ≤ s2.1 7 ∧ s2.1 7 ≤ 1000000 := by rw [b7]; exact B.1
  unfold Model_register_jn169 at e2
  refine ⟨fun no => ?_, fun yes => ?_⟩
  · rw [no, if_pos (show Int32.ofInt (bI false) = 0 from rfl), show ax_pf (mH h s2) (some 24) 9 0 (ax_I 2) = some (mH h (mI s2 0 2)) from mpf_0 h _ 2, Option.bind_some] at e2
    exact ⟨_, e2, ⟨k2.1 3 (by omega), k2.1 5 (by omega), b7', fun k hk => k2.2 k (by omega)⟩, rfl, k2.1 1 (by omega), k2.1 9 (by omega), fun k hk => k2.2 k (by omega)⟩
  · have lt6 : cnt < 6 := by
      unfold adm at yes
      rw [Bool.and_eq_true] at yes
      exact of_decide_eq_true yes.1
    have t1 : s2.1 1 = n := (k2.1 1 (by omega)).trans y1
    rw [yes, if_neg (show ¬ Int32.ofInt (bI true) = 0 from by decide), mgr_13, Option.bind_some, mgi_1, Option.bind_some, t1, show (6 : Int32) = Int32.ofInt 6 from rfl, zi_mul, zi_add, mst_13 _ _ _ _ (by omega) (by omega), Option.bind_some] at e2
    obtain ⟨s3, e3, r1, r2, r3, r4⟩ := Model_reg_l (m := m + 12) (h := h) (n := n) z0 z1 lt6 nn.2 n.toNat (mU s2 13 (6 * z + cnt) n) 0 ax_fuel (by omega) (by omega) t1 (by rw [mU_ne _ _ _ _ _ (by decide), k2.2 2 (by omega)]; exact B.2.2.2) (by rw [mU_ne _ _ _ _ _ (by decide), k2.2 11 (by omega)]; exact hc) (by unfold ax_fuel; omega)
    have e4 := e2.trans e3
    unfold Model_register_jn249 at e4
    rw [show ax_pf (mH h s3) (some 24) 9 1 (ax_I 0) = some (mH h (mI s3 1 0)) from mpf_1 h _ 0, Option.bind_some, show ax_pf (mH h (mI s3 1 0)) (some 24) 9 9 (ax_I (-1)) = some (mH h (mI (mI s3 1 0) 9 (-1))) from mpf_9 h _ (-1), Option.bind_some] at e4
    have f1 : ∀ j, s3.1 j = s2.1 j := fun j => by rw [r1]; rfl
    have f2 : ∀ j, j ≠ 11 → j ≠ 12 → j ≠ 13 → s3.2.2.1 j = s2.2.2.1 j := fun j j1 j2 j3 => (r2 j j1 j2).trans (mU_ne _ _ _ _ _ j3)
    refine ⟨_, e4, ⟨(f1 3).trans (k2.1 3 (by omega)), (f1 5).trans (k2.1 5 (by omega)), ?_, fun k hk => (f2 k (by omega) (by omega) (by omega)).trans (k2.2 k (by omega))⟩, (f1 0).trans b0, rfl, rfl, fun q => ?_, fun q => ?_, fun q => ?_⟩
    · show 0 ≤ s3.1 7 ∧ s3.1 7 ≤ 1000000
      rw [f1 7]; exact b7'
    · show s3.2.2.1 11 q = _
      rw [r3 q, mU_ne _ _ _ _ _ (by decide), k2.2 11 (by omega)]
    · show s3.2.2.1 13 q = _
      rw [r2 13 (by decide) (by decide), mU_3, k2.2 13 (by omega)]
      by_cases q1 : q = (6 * z + cnt).toNat
      · rw [if_pos ⟨rfl, q1⟩, if_pos q1]
      · rw [if_neg (fun w => q1 w.2), if_neg q1]
    · show s3.2.2.1 12 q = _
      rw [r4 q, mU_ne _ 13 2 _ _ (by decide), mU_ne _ 13 12 _ _ (by decide), k2.2 12 (by omega), k2.2 2 (by omega), show 160 * (6 * z + (cnt : Int)) + 0 = 160 * (6 * z + cnt) by omega]
