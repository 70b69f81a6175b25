theorem mul_s (a b : Nat) : (a + 1) * b = a * b + b := Nat.succ_mul a b
theorem seE_s (f : Int → Int) (k : Nat) (q : Int) : seE f (k + 1) q = if f q < 0 then f q else seE f k (f q) := rfl
/-- the elements of a part -/
theorem simS_els {m : Nat} {h : ax_Hp} {c b : Int → Int} {N D : Nat} (E : simS m h c b N D (meS m h) (fun _ => True)) {d n t cn : Int} (n0 : 0 ≤ n) (n1 : n < 240) (d0 : 0 ≤ d) (hD : d + 1 + D ≤ 9) (hT : 0 ≤ spTy c D (t + 1)) : ∀ (k : Nat) (s : mS) (q : Int), 0 < k → k ≤ 20 → isS s N b → s.1 31 = d + 1 → s.1 38 = 2 → s.2.2.1 32 d.toNat = n → s.2.2.1 17 n.toNat = 65 → s.2.2.1 33 d.toNat = cn → s.2.2.1 34 d.toNat = k → Nd s.2.2.1 c D cn (t + 1) → 0 ≤ q → q ≤ N →
    (0 ≤ seE (spSc c b D (t + 1)) k q → ∃ (K : Nat) (s' : mS), K ≤ k * (kS D + 2) ∧ (∀ fuel, lpS m h (fuel + K) q s = lpS m h fuel (seE (spSc c b D (t + 1)) k q) s') ∧ scF s s' ∧ s'.1 31 = d + 1 ∧ s'.1 38 = 3 ∧ scK d s s' ∧ s'.2.2.1 32 d.toNat = n ∧ s'.2.2.1 33 d.toNat = cn ∧ s'.2.2.1 36 d.toNat = s.2.2.1 36 d.toNat) ∧
    (seE (spSc c b D (t + 1)) k q < 0 → ∃ (K : Nat) (s' : mS), K ≤ k * (kS D + 2) ∧ (∀ fuel, lpS m h (fuel + K) q s = some (.inl (some (ax_I (Int32.ofInt (seE (spSc c b D (t + 1)) k q)))), mH h s')) ∧ scF s s')
  | 0, s, q, k0, _, _, _, _, _, _, _, _, _, _, _ => absurd k0 (Nat.lt_irrefl _)
  | k + 1, s, q, _, k20, S, h31, h38, h32, hk, h33, h34, Nn, q0, q1 => by
    have n64 := S.2.1
    have B := spSc_b (c := c) S.2.2.1 D (t + 1) q q0 q1
    obtain ⟨E1, E2⟩ := E s (d + 1) q cn (t + 1) trivial S h31 (by omega) hD Nn hT q0 q1
    have st : ∀ fuel, lpS m h (fuel + 1) q s = meS m h fuel cn q s := fun fuel => lp_2 q0 (by omega) h38 h31 d0 (by omega) h33
    rw [seE_s, mul_s]
    by_cases c1 : spSc c b D (t + 1) q < 0
    · rw [if_pos c1]
      refine ⟨fun z => absurd z (by omega), fun _ => ?_⟩
      obtain ⟨K, s', a1, a2, a3⟩ := E2 c1
      exact ⟨K + 1, s', by omega, fun fuel => by rw [← Nat.add_assoc, st, a2], a3⟩
    · rw [if_neg c1]
      have b1 := B.1 (by omega)
      obtain ⟨K, s1, a1, a2, F, f31, f38, fK⟩ := E1 (by omega)
      clear E1 E2
      generalize spSc c b D (t + 1) q = e at *
      have g32 : s1.2.2.1 32 d.toNat = n := (fK 32 (by omega) _ (by omega)).trans h32
      have g33 : s1.2.2.1 33 d.toNat = cn := (fK 33 (by omega) _ (by omega)).trans h33
      have g34 : s1.2.2.1 34 d.toNat = ((k + 1 : Nat) : Int) := (fK 34 (by omega) _ (by omega)).trans h34
      have g36 : s1.2.2.1 36 d.toNat = s.2.2.1 36 d.toNat := fK 36 (by omega) _ (by omega)
      have g17 : s1.2.2.1 17 n.toNat = 65 := by rw [scF_17 F (by decide) (by decide)]; exact hk
      obtain ⟨s2, hs2⟩ : ∃ s2, s2 = mI (mU s1 34 d (((k + 1 : Nat) : Int) - 1)) 38 (if ((k + 1 : Nat) : Int) - 1 = 0 then 3 else 2) := ⟨_, rfl⟩
      have st2 : ∀ fuel, lpS m h (fuel + 1 + K + 1) q s = lpS m h fuel e s2 := fun fuel => by
        rw [st, a2, lp_1A (by omega) (by omega) f38 f31 d0 (by omega) g32 n0 n1 g17 g34 (by omega) (by omega), ← hs2]
      have F2 : scF s1 s2 := by rw [hs2]; exact ⟨fun x a b => by rw [mI_1, if_neg b, mU_1], fun x a b c e => by rw [mI_2, mU_ne _ _ _ _ _ c], rfl⟩
      have K2 : scK d s1 s2 := fun x hx i hi => by rw [hs2, mI_2, mU_3, if_neg (by omega)]
      have v31 : s2.1 31 = d + 1 := by rw [hs2]; exact f31
      have v38 : s2.1 38 = if ((k + 1 : Nat) : Int) - 1 = 0 then 3 else 2 := by rw [hs2]; rfl
      have v32 : s2.2.2.1 32 d.toNat = n := by rw [hs2, mI_2, mU_ne _ _ _ _ _ (by decide)]; exact g32
      have v33 : s2.2.2.1 33 d.toNat = cn := by rw [hs2, mI_2, mU_ne _ _ _ _ _ (by decide)]; exact g33
      have v36 : s2.2.2.1 36 d.toNat = s.2.2.1 36 d.toNat := by rw [hs2, mI_2, mU_ne _ _ _ _ _ (by decide)]; exact g36
      have v34 : s2.2.2.1 34 d.toNat = ((k + 1 : Nat) : Int) - 1 := by rw [hs2, mI_2, mU_3, if_pos ⟨rfl, rfl⟩]
      cases k with
      | zero =>
        rw [if_pos (by omega)] at v38
        show (0 ≤ e → _) ∧ _
        refine ⟨fun _ => ⟨K + 2, s2, by omega, fun fuel => by rw [show fuel + (K + 2) = fuel + 1 + K + 1 by omega]; exact st2 fuel, F.trans F2, v31, v38, (scK_le fK (by omega)).trans K2, v32, v33, v36⟩, fun z => absurd (show e < 0 from z) (by omega)⟩
      | succ k =>
        rw [if_neg (by omega)] at v38
        obtain ⟨I1, I2⟩ := simS_els E n0 n1 d0 hD hT (k + 1) s2 e (by omega) (by omega) (scF_S (F.trans F2) S) v31 v38 v32 (by rw [scF_17 F2 (by decide) (by decide)]; exact g17) v33 (by rw [v34]; omega) (scF_N (F.trans F2) Nn) (by omega) (by omega)
        refine ⟨fun z => ?_, fun z => ?_⟩
        · obtain ⟨K', s', i1, i2, i3, i4, i5, i6, i7, i8, i9⟩ := I1 z
          exact ⟨K' + K + 2, s', by omega, fun fuel => by rw [show fuel + (K' + K + 2) = fuel + K' + 1 + K + 1 by omega, st2, i2], F.trans (F2.trans i3), i4, i5, (scK_le fK (by omega)).trans (K2.trans i6), i7, i8, i9.trans v36⟩
        · obtain ⟨K', s', i1, i2, i3⟩ := I2 z
          exact ⟨K' + K + 2, s', by omega, fun fuel => by rw [show fuel + (K' + K + 2) = fuel + K' + 1 + K + 1 by omega, st2, i2], F.trans (F2.trans i3)⟩
/-- the count of a part is taken -/
def ctS (s : mS) (d k tot : Int) : mS := mI (mI (mU (mU (mL s k) 34 d k) 36 d (tot + k)) 38 (if k = 0 then 1 else 2)) 31 (if k = 0 then d else d + 1)
theorem Model_count_z {m N : Nat} {h : ax_Hp} {s : mS} {b : Int → Int} {q d tot : Int} (S : isS s N b) (h31 : s.1 31 = d + 1) (d0 : 0 ≤ d) (d1 : d < 10) (h36 : s.2.2.1 36 d.toNat = tot) (t0 : 0 ≤ tot) (t1 : tot ≤ 20) (q0 : 0 ≤ q) (q1 : q ≤ N) : ax_F (m + 3) 201 [ax_A (some 24), ax_I (Int32.ofInt q)] (mH h s) = some (.inl (some (ax_I (Int32.ofInt (if hfO b (21 - tot) q then q + 1 else -1 - q)))), mH h (if hfO b (21 - tot) q then ctS s d (b q / 2) tot else s)) := by
  have n64 := S.2.1
  have ds : Int32.ofInt (d + 1) - Int32.ofInt 1 = Int32.ofInt d := by rw [zi_sub, show d + 1 - 1 = d by omega]
  rw [Model_takeCount_F]
  unfold Model_takeCount_b
  rw [mgr_36, Option.bind_some, mgi_31, Option.bind_some, h31, show (1 : Int32) = Int32.ofInt 1 from rfl, ds, mld_36 _ _ _ d0 (by omega), Option.bind_some, h36, mS_on, show (21 : Int32) = Int32.ofInt 21 from rfl, zi_sub, pl_ci (Model_half_z S q0 q1 (by omega) (by omega))]
  by_cases c : hfO b (21 - tot) q
  · obtain ⟨c1, c2, c3⟩ := c
    have c : hfO b (21 - tot) q := ⟨c1, c2, c3⟩
    have e32 : (Int64.ofInt (b q / 2)).toInt32 = Int32.ofInt (b q / 2) := by
      have := zb_32 (b q / 2).toNat (by omega)
      rw [show (((b q / 2).toNat : Nat) : Int) = b q / 2 by omega] at this
      exact this
    have z0 : (lg_cmp (Int64.ofInt (b q / 2)) 0 = 0) ↔ b q / 2 = 0 := by
      rw [lg_eq, show (0 : Int64) = Int64.ofInt 0 from rfl, ← Int64.toInt_inj, zl_toInt (by omega) (by omega), zl_toInt (by omega) (by omega)]
    rw [if_pos c, if_pos c, if_pos c, if_pos (show (0 : Int32) ≤ Int32.ofInt (q + 1) from by rw [zi_0, zi_le (by omega) (by omega) (by omega) (by omega)]; omega)]
    generalize b q / 2 = k at *
    rw [mgr_34, Option.bind_some, mgi_31, Option.bind_some, show (mL s k).1 31 = d + 1 from h31, ds, mgl_37, Option.bind_some, show (mL s k).2.1 = k from rfl, e32, mst_34 _ _ _ _ d0 (by omega), Option.bind_some, mgr_36, Option.bind_some, mgi_31, Option.bind_some, show (mU (mL s k) 34 d k).1 31 = d + 1 from h31, ds, mld_36 _ _ _ d0 (by omega), Option.bind_some, show (mU (mL s k) 34 d k).2.2.1 36 d.toNat = tot from by rw [mU_ne _ _ _ _ _ (by decide)]; exact h36, mgl_37, Option.bind_some, show (mU (mL s k) 34 d k).2.1 = k from rfl, e32, zi_add, mst_36 _ _ _ _ d0 (by omega), Option.bind_some, mgl_37, Option.bind_some, show (mU (mU (mL s k) 34 d k) 36 d (tot + k)).2.1 = k from rfl]
    unfold Model_takeCount_jn76 Model_takeCount_jn98 ctS
    by_cases e : k = 0
    · rw [if_pos (z0.mpr e), mpf_38, Option.bind_some, mgi_31, Option.bind_some, mgl_37, Option.bind_some, show (mI (mU (mU (mL s k) 34 d k) 36 d (tot + k)) 38 1).2.1 = k from rfl, if_pos (z0.mpr e), show (mI (mU (mU (mL s k) 34 d k) 36 d (tot + k)) 38 1).1 31 = d + 1 from h31, show (1 : Int32) = Int32.ofInt 1 from rfl, ds, mpf_31, Option.bind_some, if_pos e, if_pos e]
      rfl
    · rw [if_neg (fun w => e (z0.mp w)), show (2 : Int32) = Int32.ofInt 2 from rfl, mpf_38, Option.bind_some, mgi_31, Option.bind_some, mgl_37, Option.bind_some, show (mI (mU (mU (mL s k) 34 d k) 36 d (tot + k)) 38 2).2.1 = k from rfl, if_neg (fun w => e (z0.mp w)), show (mI (mU (mU (mL s k) 34 d k) 36 d (tot + k)) 38 2).1 31 = d + 1 from h31, zi_0, zi_sub, show d + 1 - 0 = d + 1 by omega, mpf_31, Option.bind_some, if_neg e, if_neg e]
      rfl
  · rw [if_neg c, if_neg c, if_neg c, if_neg (show ¬ (0 : Int32) ≤ Int32.ofInt (-1 - q) from by rw [zi_0, zi_le (by omega) (by omega) (by omega) (by omega)]; omega)]
    rfl
theorem ctS_F (s : mS) (d k tot : Int) : scF s (ctS s d k tot) := by
  refine ⟨fun x a b => ?_, fun x a b c e => ?_, rfl⟩
  · unfold ctS; rw [mI_1, if_neg a, mI_1, if_neg b, mU_1, mU_1]; rfl
  · unfold ctS; rw [mI_2, mI_2, mU_ne _ _ _ _ _ e, mU_ne _ _ _ _ _ c]; rfl
theorem ctS_K {s : mS} {d k tot : Int} (d0 : 0 ≤ d) : scK d s (ctS s d k tot) := fun x hx i hi => by
  unfold ctS
  rw [mI_2, mI_2, mU_3, if_neg (by omega), mU_3, if_neg (by omega)]
  rfl
theorem spSa_s (b f : Int → Int) (p left : Nat) (q : Int) : spSa b f (p + 1) left q = if hfO b (left + 1) q then (if b q = 0 then q + 1 else if seE f (b q / 2).toNat (q + 1) < 0 then seE f (b q / 2).toNat (q + 1) else spSa b f p (left - (b q / 2).toNat) (seE f (b q / 2).toNat (q + 1))) else -1 - q := rfl
set_option maxHeartbeats 1000000 in
/-- the parts of an array -/
theorem simS_prts {m : Nat} {h : ax_Hp} {c b : Int → Int} {N D : Nat} (E : simS m h c b N D (meS m h) (fun _ => True)) {d n t cn : Int} (n0 : 0 ≤ n) (n1 : n < 240) (d0 : 0 ≤ d) (hD : d + 1 + D ≤ 9) (hT : 0 ≤ spTy c D (t + 1)) : ∀ (p left : Nat) (s : mS) (q : Int), left < p → left ≤ 20 → isS s N b → s.1 31 = d + 1 → s.1 38 = 3 → s.2.2.1 32 d.toNat = n → s.2.2.1 17 n.toNat = 65 → s.2.2.1 33 d.toNat = cn → s.2.2.1 36 d.toNat = 20 - left → Nd s.2.2.1 c D cn (t + 1) → 0 ≤ q → q ≤ N →
    (0 ≤ spSa b (spSc c b D (t + 1)) p left q → ∃ (K : Nat) (s' : mS), K ≤ p + left * (kS D + 2) + 2 ∧ (∀ fuel, lpS m h (fuel + K) q s = lpS m h fuel (spSa b (spSc c b D (t + 1)) p left q) s') ∧ scF s s' ∧ s'.1 31 = d ∧ s'.1 38 = 1 ∧ scK d s s') ∧
    (spSa b (spSc c b D (t + 1)) p left q < 0 → ∃ (K : Nat) (s' : mS), K ≤ p + left * (kS D + 2) + 2 ∧ (∀ fuel, lpS m h (fuel + K) q s = some (.inl (some (ax_I (Int32.ofInt (spSa b (spSc c b D (t + 1)) p left q)))), mH h s')) ∧ scF s s')
  | 0, left, s, q, hl, _, _, _, _, _, _, _, _, _, _, _ => absurd hl (Nat.not_lt_zero _)
  | p + 1, left, s, q, hl, l20, S, h31, h38, h32, hk, h33, h36, Nn, q0, q1 => by
    have n64 := S.2.1
    have bb := bSt_b S.2.2.1 q0
    have cz := Model_count_z (m := m + 2) (h := h) (tot := 20 - (left : Int)) S h31 d0 (by omega) h36 (by omega) (by omega) q0 q1
    rw [show 21 - (20 - (left : Int)) = left + 1 by omega] at cz
    rw [spSa_s]
    by_cases c1 : hfO b (left + 1) q
    · obtain ⟨e1, e2, e3⟩ := c1
      have c1 : hfO b (left + 1) q := ⟨e1, e2, e3⟩
      have lt := bb.2.2.1 e1
      rw [if_pos c1, if_pos c1] at cz
      rw [if_pos c1]
      have st : ∀ fuel, lpS m h (fuel + 1) q s = lpS m h fuel (q + 1) (ctS s d (b q / 2) (20 - left)) := fun fuel => by
        rw [lp_3 q0 (by omega) h38, pl_ci (show ax_F (m + 5) 201 [ax_A (some 24), ax_I (Int32.ofInt q)] (mH h s) = _ from cz)]
        rfl
      have F := ctS_F s d (b q / 2) (20 - left)
      have K1 := ctS_K (s := s) (k := b q / 2) (tot := 20 - left) d0
      by_cases c2 : b q = 0
      · rw [if_pos c2]
        refine ⟨fun _ => ⟨1, _, by omega, st, F, ?_, ?_, K1⟩, fun z => absurd z (by omega)⟩
        · unfold ctS; rw [mI_1, if_pos rfl, if_pos (by omega)]
        · unfold ctS; rw [mI_1, if_neg (by decide), mI_1, if_pos rfl, if_pos (by omega)]
      · rw [if_neg c2]
        have hk0 : ¬ b q / 2 = 0 := by omega
        have w31 : (ctS s d (b q / 2) (20 - left)).1 31 = d + 1 := by unfold ctS; rw [mI_1, if_pos rfl, if_neg hk0]
        have w38 : (ctS s d (b q / 2) (20 - left)).1 38 = 2 := by unfold ctS; rw [mI_1, if_neg (by decide), mI_1, if_pos rfl, if_neg hk0]
        have w32 : (ctS s d (b q / 2) (20 - left)).2.2.1 32 d.toNat = n := by unfold ctS; rw [mI_2, mI_2, mU_ne _ _ _ _ _ (by decide), mU_ne _ _ _ _ _ (by decide)]; exact h32
        have w33 : (ctS s d (b q / 2) (20 - left)).2.2.1 33 d.toNat = cn := by unfold ctS; rw [mI_2, mI_2, mU_ne _ _ _ _ _ (by decide), mU_ne _ _ _ _ _ (by decide)]; exact h33
        have w34 : (ctS s d (b q / 2) (20 - left)).2.2.1 34 d.toNat = b q / 2 := by unfold ctS; rw [mI_2, mI_2, mU_ne _ _ _ _ _ (by decide), mU_3, if_pos ⟨rfl, rfl⟩]
        have w36 : (ctS s d (b q / 2) (20 - left)).2.2.1 36 d.toNat = 20 - left + b q / 2 := by unfold ctS; rw [mI_2, mI_2, mU_3, if_pos ⟨rfl, rfl⟩]
        generalize ctS s d (b q / 2) (20 - left) = s1 at *
        have sb := seE_b (N := N) (f := spSc c b D (t + 1)) (fun q a d => spSc_b S.2.2.1 D (t + 1) q a d) (b q / 2).toNat (q + 1) (by omega) (by omega)
        obtain ⟨j, hj⟩ : ∃ j, j = (b q / 2).toNat := ⟨_, rfl⟩
        have ml : left * (kS D + 2) = j * (kS D + 2) + (left - j) * (kS D + 2) := by rw [← Nat.add_mul, show j + (left - j) = left by omega]
        have jb : 0 < j ∧ j ≤ left ∧ (j : Int) = b q / 2 := by omega
        obtain ⟨I1, I2⟩ := simS_els E n0 n1 d0 hD hT (b q / 2).toNat s1 (q + 1) (by omega) (by omega) (scF_S F S) w31 w38 w32 (by rw [scF_17 F (by decide) (by decide)]; exact hk) w33 (by rw [w34]; omega) (scF_N F Nn) (by omega) (by omega)
        rw [← hj] at sb I1 I2 ⊢
        generalize seE (spSc c b D (t + 1)) j (q + 1) = e at *
        by_cases c3 : e < 0
        · rw [if_pos c3]
          refine ⟨fun z => absurd c3 (Int.not_lt.mpr z), fun _ => ?_⟩
          obtain ⟨K, s', a1, a2, a3⟩ := I2 c3
          clear I1 I2
          exact ⟨K + 1, s', by omega, fun fuel => by rw [← Nat.add_assoc, st, a2], F.trans a3⟩
        · rw [if_neg c3]
          have s1' := sb.1 (Int.not_lt.mp c3)
          obtain ⟨K, s2, a1, a2, F2, f31, f38, fK, f32, f33, f36⟩ := I1 (Int.not_lt.mp c3)
          clear I1 I2
          obtain ⟨J1, J2⟩ := simS_prts E n0 n1 d0 hD hT p (left - j) s2 e (by omega) (by omega) (scF_S (F.trans F2) S) f31 f38 f32 (by rw [scF_17 (F.trans F2) (by decide) (by decide)]; exact hk) f33 (by rw [f36, w36]; omega) (scF_N (F.trans F2) Nn) (by omega) (by omega)
          refine ⟨fun z => ?_, fun z => ?_⟩
          · obtain ⟨K', s', i1, i2, i3, i4, i5, i6⟩ := J1 z
            clear J1 J2
            exact ⟨K' + K + 1, s', by omega, fun fuel => by rw [show fuel + (K' + K + 1) = fuel + K' + K + 1 by omega, st, a2, i2], F.trans (F2.trans i3), i4, i5, K1.trans (fK.trans i6)⟩
          · obtain ⟨K', s', i1, i2, i3⟩ := J2 z
            clear J1 J2
            exact ⟨K' + K + 1, s', by omega, fun fuel => by rw [show fuel + (K' + K + 1) = fuel + K' + K + 1 by omega, st, a2, i2], F.trans (F2.trans i3)⟩
    · rw [if_neg c1, if_neg c1] at cz
      rw [if_neg c1]
      refine ⟨fun z => absurd z (by omega), fun _ => ⟨2, s, by omega, fun fuel => ?_, scF_refl s⟩⟩
      rw [show fuel + 2 = fuel + 1 + 1 by omega, lp_3 q0 (by omega) h38, pl_ci (show ax_F (m + 5) 201 [ax_A (some 24), ax_I (Int32.ofInt q)] (mH h s) = _ from cz)]
      exact lp_neg (by omega) (by omega)
