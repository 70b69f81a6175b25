theorem rvF.kp {s s' : mS} (h : rvF s s') : kpF s s' := ⟨fun k hk => h.1 k (by omega) (by omega) (by omega) (by omega) (by omega) (by omega) (by omega) (by omega) (by omega), fun k hk => h.2.1 k (by omega) (by omega) (by omega) (by omega)⟩
theorem scF.kp {s s' : mS} (h : scF s s') : kpF s s' := h.rv.kp
theorem kp_S {s s' : mS} {N : Nat} {b : Int → Int} (h : kpF s s') (S : isS s N b) : isS s' N b := by
  unfold isS at *
  rw [h.1 3 (by omega), h.2 4 (by omega)]
  exact S
theorem tbP_of {s s' : mS} {c : Int → Int} {tb : Int} (h : ∀ k, 14 ≤ k → k ≤ 25 → s'.2.2.1 k = s.2.2.1 k) (P : tbP s c tb) : tbP s' c tb := ⟨NdS_fr 6 (120 * tb) 0 (fun k hk i _ _ => by rw [h k (by omega) (by omega)]) (fun k hk i _ _ => by rw [h k (by omega) (by omega)]) P.1, by rw [h 16 (by decide) (by decide)]; exact P.2.1, P.2.2⟩
/-- the reference's resolve -/
theorem Model_resolve_z {m N : Nat} {h : ax_Hp} {s : mS} {b c d : Int → Int} {N0 N1 : Int} (R : rcx s N b c d N0 N1) (g1 : gN s.2.2.1 c N0 6 0 0) (g2 : gN s.2.2.1 d (120 + N1) 6 120 0) (hS : 0 ≤ spSc d b 6 0 0) : ∃ s', ax_F (m + 9) 202 [ax_A (some 24)] (mH h s) = some (.inl (some (ax_I (Int32.ofInt (bI (okN (rsv c d b 13 6 6 0 0 0) 0))))), mH h s') ∧ rvF s s' ∧ (0 ≤ s'.1 7 ∧ s'.1 7 ≤ 2000) ∧ ∀ k, rsv c d b 13 6 6 0 0 0 = some k → k.length ≤ 400 → s'.1 7 = k.length ∧ ∀ j : Nat, j < k.length → s'.2.2.1 8 j = k.getD j 0 := by
  obtain ⟨s0, hs0⟩ : ∃ s0, s0 = mI (mI (mI s 49 0) 48 0) 7 0 := ⟨_, rfl⟩
  have F0 : rvF s s0 := by rw [hs0]; exact ((rvF_I (by omega)).trans (rvF_I (by omega))).trans (rvF_I (by omega))
  have z48 : s0.1 48 = 0 := by rw [hs0]; rfl
  have z49 : s0.1 49 = 0 := by rw [hs0]; rfl
  have z7 : s0.1 7 = 0 := by rw [hs0]; rfl
  obtain ⟨s1, e1, r1⟩ := simR_all (m := m) (h := h) 13 13 (Nat.le_refl _) 6 6 0 0 120 0 0 0 s0 (m + 2) (by omega) (by omega) (by omega) (rcx_of F0 R) (gN_of (fun k a b => rvF_17 F0 a b) g1) (gN_of (fun k a b => rvF_17 F0 a b) g2) (by omega) (by omega) (by omega) hS z48 (by omega) (by omega) z49 (by omega) (by omega)
  have k6 := kS_6 6 (by omega)
  have pre : ax_F (m + 9) 202 [ax_A (some 24)] (mH h s) = lpR m h ax_fuel s1 := by
    rw [Model_resolve_F]
    unfold Model_resolve_b
    rw [show ax_pz (mH h s) (some 24) 9 49 0 = some (mH h (mI s 49 0)) from mpz_49 h s 0 (Or.inl rfl), Option.bind_some, show ax_pf (mH h (mI s 49 0)) (some 24) 9 48 (ax_I 0) = some (mH h (mI (mI s 49 0) 48 0)) from mpf_48 h _ 0, Option.bind_some, show ax_pf (mH h (mI (mI s 49 0) 48 0)) (some 24) 9 7 (ax_I 0) = some (mH h s0) from by rw [hs0]; exact mpf_7 h _ 0, Option.bind_some, mS_on, pl_cv (show ax_F (m + 8) 203 [ax_A (some 24), ax_I 0, ax_I 120, ax_I 0] (mH h s0) = _ from e1)]
    rfl
  unfold rr at r1
  rw [z7] at r1
  obtain ⟨r1, r2⟩ := r1
  generalize rsv c d b 13 6 6 0 0 0 = o at *
  cases co : okN o 0 with
  | true =>
    obtain ⟨K, s', k, a1, a2, a3, a4, a5, a6, a7, a8⟩ := r1 co
    have l := said_1 a7
    rw [z7] at l
    rw [a1] at co
    have c4 := of_decide_eq_true (show decide ((0 : Int) + k.length ≤ 400) = true from co)
    obtain ⟨f, hf⟩ : ∃ f, ax_fuel = f + 1 + K := ⟨999999999999 - K, by unfold ax_fuel; omega⟩
    refine ⟨s', ?_, F0.trans a4, by omega, fun k' hk' _ => ?_⟩
    · rw [pre, hf, show lpR m h (f + 1 + K) s1 = lpR m h (f + 1) s' from a3 (f + 1), lpR_s]
      unfold Model_resolve_bd23 Model_resolve_jn82
      rw [mgi_48, Option.bind_some, show s'.1 48 = 0 from a8, if_pos (show Int32.ofInt 0 ≤ 0 from by decide), mgi_49, Option.bind_some, a6, if_pos (show Int32.ofInt 0 = 0 from rfl), mgi_7, Option.bind_some, if_neg (show ¬ (400 : Int32) < Int32.ofInt (s'.1 7) from by rw [show (400 : Int32) = Int32.ofInt 400 from rfl, zi_lt (by omega) (by omega) (by omega) (by omega)]; omega)]
      exact za_rz (v := 1) (Or.inr rfl)
    · rw [a1] at hk'
      cases hk'
      refine ⟨by omega, fun j hj => ?_⟩
      have g := (saysD_g k (s0.1 7, s0.2.2.1 8) (by show 0 ≤ s0.1 7; omega) (by show s0.1 7 + _ ≤ 420; omega)).2 j hj
      rw [show (s0.1 7, s0.2.2.1 8).1 = 0 from z7, show ((0 : Int) + (j : Int)).toNat = j by omega] at g
      rw [← g]
      exact congrFun (congrArg Prod.snd a7) j
  | false =>
    obtain ⟨K, s', a1, a2, a3, a4⟩ := r2 co
    obtain ⟨f, hf⟩ : ∃ f, ax_fuel = f + K := ⟨1000000000000 - K, by unfold ax_fuel; omega⟩
    refine ⟨s', ?_, F0.trans a3, a4, fun k' hk' hl => ?_⟩
    · rw [pre, hf, show lpR m h (f + K) s1 = some (.inl (some (ax_I 0)), mH h s') from a2 f]
      rfl
    · rw [hk'] at co
      have := of_decide_eq_false (show decide ((0 : Int) + k'.length ≤ 400) = false from co)
      omega
theorem Model_loadV {m : Nat} {h : ax_Hp} {t : mS} {tb w l : Int} {c : Int → Int} (htb : tb = 0 ∨ tb = 1) (B : mB t) (V : veT t w l c) : ∃ t', ax_F (m + 10) 180 [ax_A (some 24), ax_I (Int32.ofInt tb), ax_I (Int32.ofInt w)] (mH h t) = some (.inl none, mH h t') ∧ lxF t t' tb ∧ isT t' tb c ∧ tbP t' c tb ∧ otF t t' tb ∧ t'.1 7 = t.1 7 := by
  obtain ⟨t1, t2, t3, t4, t5, t6, t7, t8, t9⟩ := V
  obtain ⟨t', e, lx, T, -, -, q1, q2, q3, -⟩ := Model_load_z (m := m) (h := h) (s := t) (c := c) (tb := tb) (n := l) (w := w) htb t1 t2 B.1 t3 t4 t5 t6 t7 t8 B.2.2.1 t9
  exact ⟨t', e, lx, T, q1, q2, q3⟩
theorem lxF_0 {t t' : mS} {tb : Int} (q : lxF t t' tb) : t'.1 0 = t.1 0 := q.1 0 (by decide) (by decide) (by decide) (by decide) (by decide) (by decide) (by decide) (by decide)
/-- the reference says whether one version reads another one -/
theorem Model_reads_y {m : Nat} {h : ax_Hp} {s : mS} {c d : Int → Int} {z r w nr nw : Int} (z0 : -2147483648 ≤ z) (z1 : z < 2147483648) (r0 : -2147483648 ≤ r) (r1 : r < 2147483648) (w0 : -2147483648 ≤ w) (w1 : w < 2147483648) (B : mB s) (hr : vOk z r (s.2.2.1 11)) (hw : vOk z w (s.2.2.1 11)) (VR : veT s (6 * z + r) nr c) (VW : veT s (6 * z + w) nw d) : ∃ s', ax_F (m + 11) 186 [ax_A (some 24), ax_I (Int32.ofInt z), ax_I (Int32.ofInt r), ax_I (Int32.ofInt w)] (mH h s) = some (.inl (some (ax_I (Int32.ofInt (bI (crd c d 13 6 6 0 0))))), mH h s') ∧ kpF s s' ∧ s'.1 7 = s.1 7 ∧ s'.1 0 = 0 := by
  have k0 : kpF s (mI s 0 0) := kpF_I (by decide)
  have B0 : mB (mI s 0 0) := kp_mb k0 rfl B
  obtain ⟨s1, e1, x1, T1, P1, O1, d1⟩ := Model_loadV (m := m) (h := h) (tb := 0) (Or.inl rfl) B0 (kp_ve k0 VR)
  have k1 : kpF s s1 := k0.trans x1.kp
  obtain ⟨s2, e2, x2, T2, P2, O2, d2⟩ := Model_loadV (m := m) (h := h) (tb := 1) (Or.inr rfl) (kp_mb k1 d1 B) (kp_ve k1 VW)
  have k2 : kpF s s2 := k1.trans x2.kp
  obtain ⟨s3, e3, r3, -, a3, -⟩ := Model_compare_z (m := m + 7) (h := h) (s := s2) (isT_ot x2 (Or.inr rfl) (Or.inl rfl) (by decide) T1) T2 (tbP_ot O2 (Or.inr rfl) (Or.inl rfl) (by decide) P1) P2 (by have := VR.2.2.2.2.2.2.2.2; have := VR.2.2.2.1; omega) (by have := VW.2.2.2.2.2.2.2.2; have := VW.2.2.2.1; omega)
  refine ⟨s3, ?_, k2.trans ⟨fun k _ => by rw [r3], fun k _ => by rw [a3]⟩, by rw [r3, d2, d1]; rfl, by rw [r3, lxF_0 x2, lxF_0 x1]; rfl⟩
  rw [Model_reads_F]
  unfold Model_reads_b Model_reads_jn24
  rw [mS_on, pl_ci (Model_isVersion_y z0 z1 r0 r1 B.2.1 hr), if_neg (show ¬ Int32.ofInt 1 = 0 from by decide), mS_on, pl_ci (Model_isVersion_y z0 z1 w0 w1 B.2.1 hw), if_neg (show ¬ Int32.ofInt 1 = 0 from by decide)]
  rw [show ax_pf (mH h s) (some 24) 9 0 (ax_I 0) = some (mH h (mI s 0 0)) from mpf_0 h s 0, Option.bind_some, mgi_0, Option.bind_some, if_pos (show Int32.ofInt ((mI s 0 0).1 0) ≤ 0 from by show Int32.ofInt 0 ≤ 0; decide), mS_on, show (6 : Int32) * Int32.ofInt z + Int32.ofInt r = Int32.ofInt (6 * z + r) from by rw [show (6 : Int32) = Int32.ofInt 6 from rfl, zi_mul, zi_add], pl_cv (show ax_F (m + 10) 180 [ax_A (some 24), ax_I 0, ax_I (Int32.ofInt (6 * z + r))] (mH h (mI s 0 0)) = _ from e1), mS_on, show (6 : Int32) * Int32.ofInt z + Int32.ofInt w = Int32.ofInt (6 * z + w) from by rw [show (6 : Int32) = Int32.ofInt 6 from rfl, zi_mul, zi_add], pl_cv (show ax_F (m + 10) 180 [ax_A (some 24), ax_I 1, ax_I (Int32.ofInt (6 * z + w))] (mH h s1) = _ from e2), mS_on, pl_ci (show ax_F (m + 10) 181 [ax_A (some 24)] (mH h s2) = _ from e3)]
  exact za_rz (bI_01 _)
set_option maxHeartbeats 1000000 in
/-- the reference decodes as the text says -/
theorem Model_decode_y {m N : Nat} {h : ax_Hp} {s : mS} {b c d : Int → Int} {z r w nr nw : Int} (z0 : -2147483648 ≤ z) (z1 : z < 2147483648) (w0 : -2147483648 ≤ w) (w1 : w < 2147483648) (r0 : -2147483648 ≤ r) (r1 : r < 2147483648) (B : mB s) (hw : vOk z w (s.2.2.1 11)) (hr : vOk z r (s.2.2.1 11)) (VW : veT s (6 * z + w) nw d) (VR : veT s (6 * z + r) nr c) (S : isS s N b) :
    (spSc d b 6 0 0 ≠ N → ∃ s', ax_F (m + 11) 193 [ax_A (some 24), ax_I (Int32.ofInt z), ax_I (Int32.ofInt w), ax_I (Int32.ofInt r)] (mH h s) = some (.inl (some (ax_I 0)), mH h s') ∧ s'.1 0 = 1 ∧ s'.1 1 = s.1 1 ∧ s'.1 3 = s.1 3 ∧ s'.1 5 = s.1 5 ∧ s'.1 9 = (if 0 ≤ spSc d b 6 0 0 then spSc d b 6 0 0 else -1 - spSc d b 6 0 0) ∧ (0 ≤ s'.1 7 ∧ s'.1 7 ≤ 1000000) ∧ (∀ k, k = 2 ∨ k = 4 ∨ k = 6 ∨ k = 10 ∨ k = 11 ∨ k = 12 ∨ k = 13 → s'.2.2.1 k = s.2.2.1 k)) ∧
    (spSc d b 6 0 0 = N → okL (rsv c d b 13 6 6 0 0 0) [] = false → ∃ s', ax_F (m + 11) 193 [ax_A (some 24), ax_I (Int32.ofInt z), ax_I (Int32.ofInt w), ax_I (Int32.ofInt r)] (mH h s) = some (.inl (some (ax_I 0)), mH h s') ∧ s'.1 0 = 2 ∧ s'.1 1 = s.1 1 ∧ s'.1 3 = s.1 3 ∧ s'.1 5 = s.1 5 ∧ s'.1 9 = s.1 9 ∧ (0 ≤ s'.1 7 ∧ s'.1 7 ≤ 1000000) ∧ (∀ k, k = 2 ∨ k = 4 ∨ k = 6 ∨ k = 10 ∨ k = 11 ∨ k = 12 ∨ k = 13 → s'.2.2.1 k = s.2.2.1 k)) ∧
    (spSc d b 6 0 0 = N → ∀ k, rsv c d b 13 6 6 0 0 0 = some k → k.length ≤ 400 → ∃ s', ax_F (m + 11) 193 [ax_A (some 24), ax_I (Int32.ofInt z), ax_I (Int32.ofInt w), ax_I (Int32.ofInt r)] (mH h s) = some (.inl (some (ax_I (Int32.ofInt k.length))), mH h s') ∧ s'.1 0 = 0 ∧ s'.1 1 = s.1 1 ∧ s'.1 3 = 0 ∧ s'.1 5 = k.length ∧ s'.1 9 = -1 ∧ (0 ≤ s'.1 7 ∧ s'.1 7 ≤ 1000000) ∧ (∀ k, k = 2 ∨ k = 4 ∨ k = 10 ∨ k = 11 ∨ k = 12 ∨ k = 13 → s'.2.2.1 k = s.2.2.1 k) ∧ ∀ j : Nat, j < k.length → s'.2.2.1 6 j = k.getD j 0) := by
  have okc : 0 ≤ spTy c 6 0 := by have := VR.2.2.2.2.2.2.2.2; have := VR.2.2.2.1; omega
  have okd : 0 ≤ spTy d 6 0 := by have := VW.2.2.2.2.2.2.2.2; have := VW.2.2.2.1; omega
  have k0 : kpF s (mI s 0 0) := kpF_I (by decide)
  have B0 : mB (mI s 0 0) := kp_mb k0 rfl B
  have n64 := S.2.1
  obtain ⟨s1, e1, x1, T1, P1, O1, d1⟩ := Model_loadV (m := m) (h := h) (tb := 1) (Or.inr rfl) B0 (kp_ve k0 VW)
  have k1 : kpF s s1 := k0.trans x1.kp
  have N1 : Nd s1.2.2.1 d 6 120 0 := NdS_Nd 6 120 0 (by have := P1.2.2; omega) (show NdS s1.2.2.1 d 6 120 0 from P1.1)
  obtain ⟨s2, e2, f2⟩ := Model_scan_z (m := m + 4) (h := h) (s := s1) (n := 120) (t := 0) (q := 0) (fun p hp => T1.2.2.2.1 p (by have := T1.2.1; omega)) T1.2.2.2.2 (kp_S k1 S) (by omega) N1 okd (by omega) (by omega)
  have k2 : kpF s s2 := k1.trans f2.kp
  have d2 : s2.1 7 = s.1 7 := (f2.1 7 (by decide) (by decide)).trans d1
  have bE := spSc_b (c := d) S.2.2.1 6 0 0 (by omega) (by omega)
  have c2 : s2.1 0 = 0 := by rw [f2.1 0 (by decide) (by decide), lxF_0 x1]; rfl
  have h3 : s2.1 3 = N := (k2.1 3 (by omega)).trans S.1
  have pre : ax_F (m + 11) 193 [ax_A (some 24), ax_I (Int32.ofInt z), ax_I (Int32.ofInt w), ax_I (Int32.ofInt r)] (mH h s) = if (N : Int) ≤ spSc d b 6 0 0 then (ax_cv (ax_F (m + 10) 180 [ax_A (some 24), ax_I 0, ax_I (Int32.ofInt (6 * z + r))] (mH h s2)) fun h10 => ax_on h10 (some 24) 9 <| ax_ci (ax_F (m + 10) 181 [ax_A (some 24)] h10) fun v13 h12 => ax_on h12 (some 24) 9 <| ax_ci (ax_F (m + 10) 202 [ax_A (some 24)] h12) fun v15 h14 => if v15 = 0 then Model_decode_jn119 (ax_F (m + 10)) (some 24) 2 (some 24) h14 else Model_decode_jn119 (ax_F (m + 10)) (some 24) 0 (some 24) h14) else some (.inl (some (ax_I 0)), mH h (mI (mI s2 9 (if 0 ≤ spSc d b 6 0 0 then spSc d b 6 0 0 else -1 - spSc d b 6 0 0)) 0 1)) := by
    generalize spSc d b 6 0 0 = e at *
    rw [Model_decode_F]
    unfold Model_decode_b Model_decode_jn24
    rw [mS_on, pl_ci (Model_isVersion_y z0 z1 w0 w1 B.2.1 hw), if_neg (show ¬ Int32.ofInt 1 = 0 from by decide), mS_on, pl_ci (Model_isVersion_y z0 z1 r0 r1 B.2.1 hr), if_neg (show ¬ Int32.ofInt 1 = 0 from by decide)]
    rw [show ax_pf (mH h s) (some 24) 9 0 (ax_I 0) = some (mH h (mI s 0 0)) from mpf_0 h s 0, Option.bind_some, mgi_0, Option.bind_some, if_pos (show Int32.ofInt ((mI s 0 0).1 0) ≤ 0 from by show Int32.ofInt 0 ≤ 0; decide), mS_on, show (6 : Int32) * Int32.ofInt z + Int32.ofInt w = Int32.ofInt (6 * z + w) from by rw [show (6 : Int32) = Int32.ofInt 6 from rfl, zi_mul, zi_add], pl_cv (show ax_F (m + 10) 180 [ax_A (some 24), ax_I 1, ax_I (Int32.ofInt (6 * z + w))] (mH h (mI s 0 0)) = _ from e1), mS_on, pl_ci (show ax_F (m + 10) 194 [ax_A (some 24), ax_I 120, ax_I 0] (mH h s1) = _ from e2), mgi_3, Option.bind_some, h3]
    by_cases c1 : (N : Int) ≤ e
    · have b1 := bE.1 (by omega)
      rw [if_pos (show Int32.ofInt N ≤ Int32.ofInt e from by rw [zi_le (by omega) (by omega) (by omega) (by omega)]; exact c1), if_pos c1, mS_on, show (6 : Int32) * Int32.ofInt z + Int32.ofInt r = Int32.ofInt (6 * z + r) from by rw [show (6 : Int32) = Int32.ofInt 6 from rfl, zi_mul, zi_add]]
    · have eb : -1000 ≤ e ∧ e ≤ 1000 := by
        by_cases y : 0 ≤ e
        · have := bE.1 y; omega
        · have := bE.2 (by omega); omega
      rw [if_neg (show ¬ Int32.ofInt N ≤ Int32.ofInt e from by rw [zi_le (by omega) (by omega) (by omega) (by omega)]; exact c1), if_neg c1]
      unfold Model_decode_jn80
      by_cases y : 0 ≤ e
      · rw [if_pos (show (0 : Int32) ≤ Int32.ofInt e from by rw [zi_0, zi_le (by omega) (by omega) (by omega) (by omega)]; exact y), if_pos y, mpf_9, Option.bind_some, show ax_pf (mH h (mI s2 9 e)) (some 24) 9 0 (ax_I 1) = some (mH h (mI (mI s2 9 e) 0 1)) from mpf_0 h _ 1, Option.bind_some]
        rfl
      · rw [if_neg (show ¬ (0 : Int32) ≤ Int32.ofInt e from by rw [zi_0, zi_le (by omega) (by omega) (by omega) (by omega)]; exact y), if_neg y, show (-1 : Int32) - Int32.ofInt e = Int32.ofInt (-1 - e) from by rw [show (-1 : Int32) = Int32.ofInt (-1) from rfl, zi_sub], mpf_9, Option.bind_some, show ax_pf (mH h (mI s2 9 (-1 - e))) (some 24) 9 0 (ax_I 1) = some (mH h (mI (mI s2 9 (-1 - e)) 0 1)) from mpf_0 h _ 1, Option.bind_some]
        rfl
  refine ⟨fun ne => ?_, ?_⟩
  · rw [if_neg (show ¬ (N : Int) ≤ spSc d b 6 0 0 from fun y => ne (by have := bE.1 (by omega); omega))] at pre
    exact ⟨_, pre, rfl, k2.1 1 (by omega), k2.1 3 (by omega), k2.1 5 (by omega), rfl, by show 0 ≤ s2.1 7 ∧ s2.1 7 ≤ _; rw [d2]; exact B.1, k2.2⟩
  · suffices M : spSc d b 6 0 0 = N → ∃ s6 : mS, ax_F (m + 11) 193 [ax_A (some 24), ax_I (Int32.ofInt z), ax_I (Int32.ofInt w), ax_I (Int32.ofInt r)] (mH h s) = (if okL (rsv c d b 13 6 6 0 0 0) [] = true then Model_decode_jn119 (ax_F (m + 10)) (some 24) 0 (some 24) (mH h s6) else Model_decode_jn119 (ax_F (m + 10)) (some 24) 2 (some 24) (mH h s6)) ∧ kpF s s6 ∧ (0 ≤ s6.1 7 ∧ s6.1 7 ≤ 2000) ∧ ∀ k, rsv c d b 13 6 6 0 0 0 = some k → k.length ≤ 400 → s6.1 7 = k.length ∧ ∀ j : Nat, j < k.length → s6.2.2.1 8 j = k.getD j 0 by
      refine ⟨fun eq no => ?_, fun eq k hk hk2 => ?_⟩
      · obtain ⟨s6, p1, k6, b6, -⟩ := M eq
        rw [no, if_neg (by decide)] at p1
        unfold Model_decode_jn119 at p1
        rw [show ax_pf (mH h s6) (some 24) 9 0 (ax_I 2) = some (mH h (mI s6 0 2)) from mpf_0 h _ 2, Option.bind_some, show ax_pf (mH h (mI s6 0 2)) (some 24) 9 39 (ax_I 0) = some (mH h (mI (mI s6 0 2) 39 0)) from mpf_39 h _ 0, Option.bind_some, mgi_0, Option.bind_some, show (mI (mI s6 0 2) 39 0).1 0 = 2 from rfl, if_neg (show ¬ Int32.ofInt 2 ≤ 0 from by decide)] at p1
        exact ⟨mI (mI s6 0 2) 39 0, p1, rfl, k6.1 1 (by omega), k6.1 3 (by omega), k6.1 5 (by omega), k6.1 9 (by omega), by show 0 ≤ s6.1 7 ∧ s6.1 7 ≤ _; omega, k6.2⟩
      · obtain ⟨s6, p1, k6, b6, v6⟩ := M eq
        obtain ⟨v1, v2⟩ := v6 k hk hk2
        have ok : okL (rsv c d b 13 6 6 0 0 0) [] = true := okL_t.mpr ⟨k, hk, by rw [List.length_nil]; omega⟩
        rw [ok, if_pos rfl] at p1
        unfold Model_decode_jn119 at p1
        obtain ⟨s7, hs7⟩ : ∃ s7, s7 = mI (mI (mI (mI s6 0 0) 39 0) 3 0) 9 (-1) := ⟨_, rfl⟩
        have a7 : s7.1 7 = s6.1 7 := by rw [hs7]; rfl
        obtain ⟨s8, e8, a8, b8, c8, d8⟩ := Model_keep_z (m := m + 9) (h := h) (s := s7) (by omega) (by omega)
        rw [show ax_pf (mH h s6) (some 24) 9 0 (ax_I 0) = some (mH h (mI s6 0 0)) from mpf_0 h _ 0, Option.bind_some, show ax_pf (mH h (mI s6 0 0)) (some 24) 9 39 (ax_I 0) = some (mH h (mI (mI s6 0 0) 39 0)) from mpf_39 h _ 0, Option.bind_some, mgi_0, Option.bind_some, show (mI (mI s6 0 0) 39 0).1 0 = 0 from rfl, if_pos (show Int32.ofInt 0 ≤ 0 from by decide), show ax_pf (mH h (mI (mI s6 0 0) 39 0)) (some 24) 9 3 (ax_I 0) = some (mH h (mI (mI (mI s6 0 0) 39 0) 3 0)) from mpf_3 h _ 0, Option.bind_some, show ax_pf (mH h (mI (mI (mI s6 0 0) 39 0) 3 0)) (some 24) 9 9 (ax_I (-1)) = some (mH h s7) from by rw [hs7]; exact mpf_9 h _ (-1), Option.bind_some, mS_on, pl_ci (show ax_F (m + 10) 190 [ax_A (some 24)] (mH h s7) = _ from e8), a7, v1] at p1
        have kk : ∀ k, k = 2 ∨ k = 4 ∨ k = 10 ∨ k = 11 ∨ k = 12 ∨ k = 13 → s8.2.2.1 k = s.2.2.1 k := fun j hj => by
          rw [c8 j (by omega), hs7]
          exact k6.2 j (by omega)
        refine ⟨s8, p1, ?_, ?_, ?_, ?_, ?_, ?_, kk, fun j hj => ?_⟩
        · rw [a8 0 (by decide), hs7]; rfl
        · rw [a8 1 (by decide), hs7]; exact k6.1 1 (by omega)
        · rw [a8 3 (by decide), hs7]; rfl
        · rw [b8, a7, v1]
        · rw [a8 9 (by decide), hs7]; rfl
        · rw [a8 7 (by decide), a7]; omega
        · rw [d8 j (by rw [a7, v1]; omega), hs7]
          exact v2 j hj
    intro eq
    rw [if_pos (show (N : Int) ≤ spSc d b 6 0 0 from by omega)] at pre
    have a14 : ∀ k, 14 ≤ k → k ≤ 25 → s2.2.2.1 k = s1.2.2.1 k := fun k a b => scF_17 f2 a b
    have T2 : isT s2 1 d := isT_of T1 (a14 15 (by decide) (by decide)) (a14 14 (by decide) (by decide))
    have P2 : tbP s2 d 1 := tbP_of a14 P1
    obtain ⟨s3, e3, x3, T3, P3, O3, d3⟩ := Model_loadV (m := m) (h := h) (tb := 0) (Or.inl rfl) (kp_mb k2 d2 B) (kp_ve k2 VR)
    have k3 : kpF s s3 := k2.trans x3.kp
    have T31 := isT_ot x3 (Or.inl rfl) (Or.inr rfl) (by decide) T2
    have P31 := tbP_ot O3 (Or.inl rfl) (Or.inr rfl) (by decide) P2
    obtain ⟨s4, e4, r4, -, a4, fit4⟩ := Model_compare_z (m := m + 7) (h := h) (s := s3) T3 T31 P3 P31 okc okd
    have k4 : kpF s s4 := k3.trans ⟨fun k _ => by rw [r4], fun k _ => by rw [a4]⟩
    have q3 := P3.2.2
    have q31 := P31.2.2
    have R : rcx s4 N b c d (spN c 6 0) (spN d 6 0) := ⟨kp_S k4 S, isT_of T3 (by rw [a4]) (by rw [a4]), isT_of T31 (by rw [a4]) (by rw [a4]), q3, q31, fit4⟩
    have G0 : gN s4.2.2.1 c (spN c 6 0) 6 0 0 := by rw [a4]; exact ⟨P3.1, by omega, by omega, okc⟩
    have G1 : gN s4.2.2.1 d (120 + spN d 6 0) 6 120 0 := by rw [a4]; exact ⟨P31.1, by omega, by omega, okd⟩
    obtain ⟨s6, e6, F6, b6, v6⟩ := Model_resolve_z (m := m + 1) (h := h) R G0 G1 (by omega)
    refine ⟨s6, ?_, k4.trans F6.kp, b6, v6⟩
    refine pre.trans ?_
    rw [pl_cv (show ax_F (m + 10) 180 [ax_A (some 24), ax_I 0, ax_I (Int32.ofInt (6 * z + r))] (mH h s2) = _ from e3), mS_on, pl_ci (show ax_F (m + 10) 181 [ax_A (some 24)] (mH h s3) = _ from e4), mS_on, pl_ci (show ax_F (m + 10) 202 [ax_A (some 24)] (mH h s4) = _ from e6), ← okN_L (L := []), show ((([] : List Int).length : Nat) : Int) = 0 from rfl]
    cases okN (rsv c d b 13 6 6 0 0 0) 0 with
    | false => rw [if_pos (show Int32.ofInt (bI false) = 0 from rfl), if_neg (by decide)]
    | true => rw [if_neg (show ¬ Int32.ofInt (bI true) = 0 from by decide), if_pos rfl]
/-- the class says whether one version reads another one -/
theorem Desk_reads_y {m sr sw lr lw : Nat} {z r w : Int32} {h : ax_Hp} {c d : Int → Int} {re rn ru we wn wu : Nat → Int} {fs : List ax_T} (hd : h.2.2 1 = some (.inl (8, fs))) (VR : verX h sr lr c re rn ru) (VW : verX h sw lw d we wn wu) (hv1 : ax_F (m + 30) 94 [ax_A (some 1), ax_I z, ax_I r] h = some (.inl (some (ax_A (some sr))), h)) (hv2 : ax_F (m + 30) 94 [ax_A (some 1), ax_I z, ax_I w] h = some (.inl (some (ax_A (some sw))), h)) : ax_F (m + 31) 93 [ax_A (some 1), ax_I z, ax_I r, ax_I w] h = some (.inl (some (ax_I (Int32.ofInt (bI (crd c d 13 6 6 0 0))))), h) := by
  rw [Desk_reads_F]
  unfold Desk_reads_b
  rw [pl_on hd, pl_cr hv1, pl_on hd, pl_cr hv2, pl_ci (Co_read (m := m) (verX_A VR) (verX_A VW) VR.2.2.2.2.2.2.2.2.2.2.2 VW.2.2.2.2.2.2.2.2.2.2.2)]
  exact za_rz (bI_01 _)
