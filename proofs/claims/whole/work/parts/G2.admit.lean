def allB (P : Nat → Bool) : Nat → Nat → Bool
  | 0, _ => true
  | k + 1, j => P j && allB P k (j + 1)
def stJ (cnt : Nat) (mode : Int) : Nat := if 3 < mode then 0 else cnt - 1
/-- is the candidate let in? -/
def adm (cnt : Nat) (mode : Int) (P : Nat → Bool) : Bool := decide (cnt < 6) && allB P (cnt - stJ cnt mode) (stJ cnt mode)
theorem Sb_admL {m i cnt n : Nat} {h : ax_Hp} {mode : Int} {ad ln : Nat → Nat} {cs : Nat → Int → Int} {v : Int → Int} {fe fn fu : Nat → Nat → Int} {ge gn gu : Nat → Int} (S : sbX h i cnt mode ad) (m0 : 0 ≤ mode) (m1 : mode ≤ 6) (V : ∀ j, j < cnt → verX h (ad j) (ln j) (cs j) (fe j) (fn j) (fu j)) (C : cdX h n v ge gn gu) (G : gdS n v ge gn gu) : ∀ (r j fuel : Nat), j + r = cnt → r < fuel → Subject_admits_lp50 (ax_F (m + 31)) fuel (some (15 + 2 * i)) (some 4) (Int32.ofInt j) h = some (.inl (some (ax_I (Int32.ofInt (bI (allB (fun j => gon (md3 mode) (crd v (cs j) 13 6 6 0 0) (crd (cs j) v 13 6 6 0 0)) r j))))), h)
  | 0, j, fuel, hj, hf => by
    obtain ⟨fuel, rfl⟩ : ∃ g, fuel = g + 1 := ⟨fuel - 1, by omega⟩
    have hstep : Subject_admits_lp50 (ax_F (m + 31)) (fuel + 1) = Subject_admits_bd50 (ax_F (m + 31)) (Subject_admits_lp50 (ax_F (m + 31)) fuel) := rfl
    have c6 := S.2.2
    rw [hstep]
    unfold Subject_admits_bd50
    rw [pl_gi S.1 (v := Int32.ofInt cnt) rfl, Option.bind_some, if_pos (show Int32.ofInt cnt ≤ Int32.ofInt j from by rw [zi_le (by omega) (by omega) (by omega) (by omega)]; omega)]
    exact za_rz (v := 1) (Or.inr rfl)
  | r + 1, j, fuel, hj, hf => by
    obtain ⟨fuel, rfl⟩ : ∃ g, fuel = g + 1 := ⟨fuel - 1, by omega⟩
    have hstep : Subject_admits_lp50 (ax_F (m + 31)) (fuel + 1) = Subject_admits_bd50 (ax_F (m + 31)) (Subject_admits_lp50 (ax_F (m + 31)) fuel) := rfl
    have c6 := S.2.2
    have ih := Sb_admL (m := m) S m0 m1 V C G r (j + 1) fuel (by omega) (by omega)
    have g := Sb_getOn (m := m) S m0 m1 (V j (by omega)) C G
    rw [hstep]
    unfold Subject_admits_bd50
    rw [pl_gi S.1 (v := Int32.ofInt cnt) rfl, Option.bind_some, if_neg (show ¬ Int32.ofInt cnt ≤ Int32.ofInt j from by rw [zi_le (by omega) (by omega) (by omega) (by omega)]; omega), pl_gr S.1 (v := some (16 + 2 * i)) rfl, Option.bind_some, sb_ld S (by omega), Option.bind_some, if_neg (fun z => nomatch z), pl_on S.1, pl_ci g, show (1 : Int32) = Int32.ofInt 1 from rfl, zi_add, show (j : Int) + 1 = ((j + 1 : Nat) : Int) by omega]
    show _ = some (Sum.inl (some (ax_I (Int32.ofInt (bI (gon (md3 mode) (crd v (cs j) 13 6 6 0 0) (crd (cs j) v 13 6 6 0 0) && allB (fun j => gon (md3 mode) (crd v (cs j) 13 6 6 0 0) (crd (cs j) v 13 6 6 0 0)) r (j + 1)))))), h)
    cases hg : gon (md3 mode) (crd v (cs j) 13 6 6 0 0) (crd (cs j) v 13 6 6 0 0) with
    | false =>
      rw [if_pos (show Int32.ofInt (bI false) = 0 from rfl), Bool.false_and]
      exact za_rz (v := 0) (Or.inl rfl)
    | true =>
      rw [if_neg (show ¬ Int32.ofInt (bI true) = 0 from by decide), Bool.true_and]
      exact ih
/-- the class lets a candidate in -/
theorem Sb_adm {m i cnt n : Nat} {h : ax_Hp} {mode : Int} {ad ln : Nat → Nat} {cs : Nat → Int → Int} {v : Int → Int} {fe fn fu : Nat → Nat → Int} {ge gn gu : Nat → Int} (S : sbX h i cnt mode ad) (m0 : 0 ≤ mode) (m1 : mode ≤ 6) (V : ∀ j, j < cnt → verX h (ad j) (ln j) (cs j) (fe j) (fn j) (fu j)) (C : cdX h n v ge gn gu) (G : gdS n v ge gn gu) : ax_F (m + 32) 69 [ax_A (some (15 + 2 * i)), ax_A (some 4)] h = some (.inl (some (ax_I (Int32.ofInt (bI (adm cnt mode (fun j => gon (md3 mode) (crd v (cs j) 13 6 6 0 0) (crd (cs j) v 13 6 6 0 0))))))), h) := by
  have c6 := S.2.2
  have L := fun r j fuel hj hf => Sb_admL (m := m) S m0 m1 V C G r j fuel hj hf
  have s1 : ax_gi h (some (15 + 2 * i)) 6 1 = some (Int32.ofInt cnt) := pl_gi S.1 rfl
  have s2 : ax_gi h (some (15 + 2 * i)) 6 2 = some (Int32.ofInt mode) := pl_gi S.1 rfl
  generalize (fun j => gon (md3 mode) (crd v (cs j) 13 6 6 0 0) (crd (cs j) v 13 6 6 0 0)) = P at *
  rw [Subject_admits_F]
  unfold Subject_admits_b adm stJ
  rw [s1, Option.bind_some]
  by_cases q : cnt < 6
  · rw [if_pos (show Int32.ofInt cnt < 6 from by rw [show (6 : Int32) = Int32.ofInt 6 from rfl, zi_lt (by omega) (by omega) (by omega) (by omega)]; omega), s2, Option.bind_some, decide_eq_true q, Bool.true_and]
    by_cases q2 : 3 < mode
    · rw [if_pos (show (3 : Int32) < Int32.ofInt mode from by rw [show (3 : Int32) = Int32.ofInt 3 from rfl, zi_lt (by omega) (by omega) (by omega) (by omega)]; exact q2), if_pos q2]
      exact L cnt 0 ax_fuel (by omega) (by unfold ax_fuel; omega)
    · rw [if_neg (show ¬ (3 : Int32) < Int32.ofInt mode from by rw [show (3 : Int32) = Int32.ofInt 3 from rfl, zi_lt (by omega) (by omega) (by omega) (by omega)]; exact q2), if_neg q2, Option.bind_some]
      by_cases q3 : cnt = 0
      · rw [if_pos (show Int32.ofInt cnt ≤ 0 from by rw [zi_0, zi_le (by omega) (by omega) (by omega) (by omega)]; omega), q3]
        exact L 0 0 ax_fuel (by omega) (by unfold ax_fuel; omega)
      · rw [if_neg (show ¬ Int32.ofInt cnt ≤ 0 from by rw [zi_0, zi_le (by omega) (by omega) (by omega) (by omega)]; omega), Option.bind_some, show (1 : Int32) = Int32.ofInt 1 from rfl, zi_sub, show (cnt : Int) - 1 = ((cnt - 1 : Nat) : Int) by omega]
        exact L (cnt - (cnt - 1)) (cnt - 1) ax_fuel (by omega) (by unfold ax_fuel; omega)
  · rw [if_neg (show ¬ Int32.ofInt cnt < 6 from by rw [show (6 : Int32) = Int32.ofInt 6 from rfl, zi_lt (by omega) (by omega) (by omega) (by omega)]; omega), decide_eq_false q, Bool.false_and]
    exact za_rz (v := 0) (Or.inl rfl)
theorem kp_ve {s s' : mS} (h : kpF s s') {w l : Int} {c : Int → Int} (V : veT s w l c) : veT s' w l c := by
  unfold veT at *
  rw [h.2 12 (by omega), h.2 13 (by omega)]
  exact V
theorem kp_ty {s s' : mS} (h : kpF s s') {n : Int} {v : Int → Int} (Y : tyT s n v) : tyT s' n v := by
  unfold tyT at *
  rw [h.2 2 (by omega), h.1 1 (by omega)]
  exact Y
theorem kp_mb {s s' : mS} (h : kpF s s') (h7 : s'.1 7 = s.1 7) (B : mB s) : mB s' := by
  unfold mB at *
  rw [h.2 2 (by omega), h.2 11 (by omega), h.2 12 (by omega), h7]
  exact B
theorem isT_ot {s s' : mS} {tb tb' : Int} {c : Int → Int} (h : lxF s s' tb) (htb : tb = 0 ∨ tb = 1) (htb' : tb' = 0 ∨ tb' = 1) (hne : tb' ≠ tb) (T : isT s tb' c) : isT s' tb' c := by
  obtain ⟨t1, t2, t3, t4, t5⟩ := T
  have e15 : s'.2.2.1 15 tb'.toNat = s.2.2.1 15 tb'.toNat := h.2.2.2.1 _ (by omega)
  refine ⟨by rw [e15]; exact t1, by rw [e15]; exact t2, fun p p0 p1 => ?_, fun p p0 => t4 p (by rw [e15] at p0; exact p0), t5⟩
  rw [e15] at p1
  rw [h.2.2.2.2 _ (by omega)]
  exact t3 p p0 p1
theorem tbP_ot {s s' : mS} {tb tb' : Int} {c : Int → Int} (h : otF s s' tb) (htb : tb = 0 ∨ tb = 1) (htb' : tb' = 0 ∨ tb' = 1) (hne : tb' ≠ tb) (P : tbP s c tb') : tbP s' c tb' := by
  obtain ⟨p1, p2, p3⟩ := P
  refine ⟨NdS_fr 6 (120 * tb') 0 (fun k hk i i0 i1 => h.2.1 k (by omega) (by omega) i (by omega)) (fun k hk i i0 i1 => h.2.1 k (by omega) (by omega) i (by omega)) p1, by rw [h.1 _ (by omega)]; exact p2, p3⟩
theorem spRes_ok {c : Int → Int} {n : Int} (h : spTy c 6 0 = n) (n0 : 0 ≤ n) : spRes c n = -1 := by
  unfold spRes
  rw [if_pos (by omega), if_pos h]
/-- the reference asks whether a version and the typed text get on -/
theorem Model_getsOn_z {m : Nat} {h : ax_Hp} {s : mS} {w l n mode : Int} {c v : Int → Int} (B : mB s) (VT : veT s w l c) (Y : tyT s n v) (ok : spTy v 6 0 = n) (m0 : 0 ≤ mode) (m1 : mode ≤ 6) : ∃ s', ax_F (m + 11) 179 [ax_A (some 24), ax_I (Int32.ofInt mode), ax_I (Int32.ofInt w)] (mH h s) = some (.inl (some (ax_I (Int32.ofInt (bI (gon (md3 mode) (crd v c 13 6 6 0 0) (crd c v 13 6 6 0 0)))))), mH h s') ∧ kpF s s' ∧ s'.1 7 = s.1 7 ∧ s'.1 0 = s.1 0 := by
  have nn : 0 ≤ n ∧ n ≤ 160 := ⟨Y.2.1, Y.2.2.1⟩
  have ll : 0 ≤ l := VT.2.2.2.1
  have rv := spRes_ok ok nn.1
  -- the typed text into a table
  have LT : ∀ (t : mS) (tb : Int), tb = 0 ∨ tb = 1 → mB t → tyT t n v → ∃ t', ax_F (m + 10) 152 [ax_A (some 24), ax_I (Int32.ofInt tb)] (mH h t) = some (.inl (some (ax_I (Int32.ofInt (-1)))), mH h t') ∧ lxF t t' tb ∧ isT t' tb v ∧ tbP t' v tb ∧ otF t t' tb ∧ t'.1 7 = t.1 7 := fun t tb htb B Y => by
    obtain ⟨y1, y2, y3, y4, y5, y6⟩ := Y
    obtain ⟨t', e, lx, T, -, -, q⟩ := Model_loadTyped_z (m := m) (h := h) (s := t) (c := v) (tb := tb) (n := n) htb B.1 y1 y2 y3 y4 y5 y6 B.2.2.2
    rw [rv] at e q
    obtain ⟨q1, q2, q3, -⟩ := q (by decide)
    exact ⟨t', e, lx, T, q1, q2, q3⟩
  have LV : ∀ (t : mS) (tb : Int), tb = 0 ∨ tb = 1 → mB t → veT t w l c → ∃ t', ax_F (m + 10) 180 [ax_A (some 24), ax_I (Int32.ofInt tb), ax_I (Int32.ofInt w)] (mH h t) = some (.inl none, mH h t') ∧ lxF t t' tb ∧ isT t' tb c ∧ tbP t' c tb ∧ otF t t' tb ∧ t'.1 7 = t.1 7 := fun t tb htb B V => by
    obtain ⟨t1, t2, t3, t4, t5, t6, t7, t8, t9⟩ := V
    obtain ⟨t', e, lx, T, -, -, q1, q2, q3, -⟩ := Model_load_z (m := m) (h := h) (s := t) (c := c) (tb := tb) (n := l) (w := w) htb t1 t2 B.1 t3 t4 t5 t6 t7 t8 B.2.2.1 t9
    exact ⟨t', e, lx, T, q1, q2, q3⟩
  have CM : ∀ (t : mS) (x y : Int → Int), isT t 0 x → isT t 1 y → tbP t x 0 → tbP t y 1 → 0 ≤ spTy x 6 0 → 0 ≤ spTy y 6 0 → ∃ t', ax_F (m + 10) 181 [ax_A (some 24)] (mH h t) = some (.inl (some (ax_I (Int32.ofInt (bI (crd x y 13 6 6 0 0))))), mH h t') ∧ t'.1 = t.1 ∧ t'.2.2.1 = t.2.2.1 := fun t x y T0 T1 P0 P1 a b => by
    obtain ⟨t', e, r1, r2, r3, -⟩ := Model_compare_z (m := m + 7) (h := h) (s := t) T0 T1 P0 P1 a b
    exact ⟨t', e, r1, r3⟩
  have cf : ∀ {t t' : mS}, t'.1 = t.1 → t'.2.2.1 = t.2.2.1 → kpF t t' := fun a b => ⟨fun k _ => by rw [a], fun k _ => by rw [b]⟩
  have ok0 : 0 ≤ spTy v 6 0 := by omega
  have ok1 : 0 ≤ spTy c 6 0 := by have := VT.2.2.2.2.2.2.2.2; omega
  obtain ⟨s1, e1, x1, T1, P1, O1, d1⟩ := LT s 0 (Or.inl rfl) B Y
  have k1 : kpF s s1 := x1.kp
  obtain ⟨s2, e2, x2, T2, P2, O2, d2⟩ := LV s1 1 (Or.inr rfl) (kp_mb k1 d1 B) (kp_ve k1 VT)
  have k2 : kpF s s2 := k1.trans x2.kp
  obtain ⟨s3, e3, r3, a3⟩ := CM s2 v c (isT_ot x2 (Or.inr rfl) (Or.inl rfl) (by decide) T1) T2 (tbP_ot O2 (Or.inr rfl) (Or.inl rfl) (by decide) P1) P2 ok0 ok1
  have k3 : kpF s s3 := k2.trans (cf r3 a3)
  have d3 : s3.1 7 = s.1 7 := by rw [r3, d2, d1]
  obtain ⟨s4, e4, x4, T4, P4, O4, d4⟩ := LV s3 0 (Or.inl rfl) (kp_mb k3 d3 B) (kp_ve k3 VT)
  have k4 : kpF s s4 := k3.trans x4.kp
  obtain ⟨s5, e5, x5, T5, P5, O5, d5⟩ := LT s4 1 (Or.inr rfl) (kp_mb k4 (d4.trans d3) B) (kp_ty k4 Y)
  have k5 : kpF s s5 := k4.trans x5.kp
  obtain ⟨s6, e6, r6, a6⟩ := CM s5 c v (isT_ot x5 (Or.inr rfl) (Or.inl rfl) (by decide) T4) T5 (tbP_ot O5 (Or.inr rfl) (Or.inl rfl) (by decide) P4) P5 ok1 ok0
  have z0 : ∀ {t t' : mS} {tb : Int}, lxF t t' tb → t'.1 0 = t.1 0 := fun q => q.1 0 (by decide) (by decide) (by decide) (by decide) (by decide) (by decide) (by decide) (by decide)
  refine ⟨s6, ?_, k5.trans (cf r6 a6), by rw [r6, d5, d4, d3], by rw [r6, z0 x5, z0 x4, r3, z0 x2, z0 x1]⟩
  generalize crd v c 13 6 6 0 0 = a at *
  generalize crd c v 13 6 6 0 0 = b at *
  have y1 : ax_rz 1 (mH h s6) = some (.inl (some (ax_I (Int32.ofInt 1))), mH h s6) := za_rz (v := 1) (Or.inr rfl)
  have y0 : ax_rz 0 (mH h s6) = some (.inl (some (ax_I (Int32.ofInt 0))), mH h s6) := za_rz (v := 0) (Or.inl rfl)
  have key : ∀ md : Int, md = 0 ∨ md = 1 ∨ md = 2 ∨ md = 3 → Model_getsOn_jn47 (ax_F (m + 10)) (Int32.ofInt (bI a)) (Int32.ofInt (bI b)) (Int32.ofInt md) (mH h s6) = some (.inl (some (ax_I (Int32.ofInt (bI (gon md a b))))), mH h s6) := by
    intro md hm
    unfold Model_getsOn_jn47 Model_getsOn_jn64 Model_getsOn_jn75
    rw [y1, y0]
    rcases hm with rfl | rfl | rfl | rfl <;> cases a <;> cases b <;> rfl
  rw [Model_getsOn_F]
  unfold Model_getsOn_b
  rw [mS_on, pl_ci (show ax_F (m + 10) 152 [ax_A (some 24), ax_I 0] (mH h s) = _ from e1), mS_on, pl_cv (show ax_F (m + 10) 180 [ax_A (some 24), ax_I 1, ax_I (Int32.ofInt w)] (mH h s1) = _ from e2), mS_on, pl_ci e3, mS_on, pl_cv (show ax_F (m + 10) 180 [ax_A (some 24), ax_I 0, ax_I (Int32.ofInt w)] (mH h s3) = _ from e4), mS_on, pl_ci (show ax_F (m + 10) 152 [ax_A (some 24), ax_I 1] (mH h s4) = _ from e5), mS_on, pl_ci e6]
  unfold md3
  by_cases q : 3 < mode
  · rw [if_neg (show ¬ Int32.ofInt mode ≤ 3 from by rw [show (3 : Int32) = Int32.ofInt 3 from rfl, zi_le (by omega) (by omega) (by omega) (by omega)]; omega), if_pos q, show (3 : Int32) = Int32.ofInt 3 from rfl, zi_sub]
    exact key (mode - 3) (by omega)
  · rw [if_pos (show Int32.ofInt mode ≤ 3 from by rw [show (3 : Int32) = Int32.ofInt 3 from rfl, zi_le (by omega) (by omega) (by omega) (by omega)]; omega), if_neg q]
    exact key mode (by omega)
