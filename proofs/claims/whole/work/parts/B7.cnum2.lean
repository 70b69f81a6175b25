/-- what the cursor sees at q -/
def pk (K : Nat → Nat) (v : Int → Int) (q : Int) : Int := if q < K 7 then v q else -1
theorem pk_b {g : ax_Hp} {K : Nat → Nat} {v : Int → Int} (X : cvX g K v) {q : Int} (q0 : 0 ≤ q) : -1 ≤ pk K v q ∧ pk K v q < 128 ∧ (v q ≠ 0 → pk K v q = v q) ∧ (v q = 0 → pk K v q = -1) ∧ (0 ≤ v q ∧ v q < 128) ∧ (v q ≠ 0 → q < K 7) := by
  obtain ⟨ci, fv, x1, x2, x3, x4, x5, x6, x7⟩ := X
  have b := x7 q
  unfold pk
  by_cases c : q < K 7
  · have := x5 q q0 c
    rw [if_pos c]
    omega
  · have := x6 q (by omega)
    rw [if_neg c]
    omega
theorem Cu_pk {m : Nat} {g : ax_Hp} {K : Nat → Nat} {v : Int → Int} {s : cS} (h : kOk K) (X : cvX g K v) (p0 : 0 ≤ s.1) (p1 : s.1 ≤ 1000) : ax_F (m + 1) 29 [ax_A (some (K 0))] (cH g K s) = some (.inl (some (ax_I (Int32.ofInt (pk K v s.1)))), cH g K s) := Cu_peek h X p0 p1
theorem Cu_stepN {m : Nat} {g : ax_Hp} {K : Nat → Nat} {v : Int → Int} {s : cS} (h : kOk K) (X : cvX g K v) (p0 : 0 ≤ s.1) (p1 : s.1 ≤ 1000) (hn : v s.1 ≠ 0) : ax_F (m + 1) 34 [ax_A (some (K 0))] (cH g K s) = some (.inl none, cH g K (cAt s (s.1 + 1))) := by
  rw [Cu_step h p0 p1, if_pos ((pk_b X p0).2.2.2.2.2 hn)]
theorem De_dig {m : Nat} {h : ax_Hp} {x : Int} (x0 : -1 ≤ x) (x1 : x < 128) : ax_F (m + 1) 49 [ax_I (Int32.ofInt x)] h = some (.inl (some (ax_I (Int32.ofInt (if isDg x then 1 else 0)))), h) := by
  rw [Desk_isDigit_F]
  unfold Desk_isDigit_b
  simp (disch := omega) only [show (48 : Int32) = Int32.ofInt 48 from rfl, show (57 : Int32) = Int32.ofInt 57 from rfl, zi_lt]
  by_cases c1 : x < 48
  · rw [if_pos c1, if_neg (show ¬ isDg x from fun z => by omega)]; exact za_rz (v := 0) (Or.inl rfl)
  · rw [if_neg c1]
    by_cases c2 : 57 < x
    · rw [if_pos c2, if_neg (show ¬ isDg x from fun z => by omega)]; exact za_rz (v := 0) (Or.inl rfl)
    · rw [if_neg c2, if_pos (show isDg x from ⟨by omega, by omega⟩)]; exact za_rz (v := 1) (Or.inr rfl)
theorem spNm_v {v : Int → Int} {lim : Int} : ∀ (f : Nat) (q a : Int), 0 ≤ q → a ≤ 0 → lim ≤ a → 0 ≤ (spNm v lim f q a).1 → lim ≤ (spNm v lim f q a).2 ∧ (spNm v lim f q a).2 ≤ 0 ∧ q ≤ (spNm v lim f q a).1 ∧ 1 - (spNm v lim f q a).2 ≤ (1 - a) * 10 ^ ((spNm v lim f q a).1 - q).toNat
  | 0, q, a, h0, ha, hl, he => by
    show lim ≤ a ∧ a ≤ 0 ∧ q ≤ q ∧ 1 - a ≤ (1 - a) * 10 ^ (q - q).toNat
    rw [show (q - q).toNat = 0 by omega]
    omega
  | f + 1, q, a, h0, ha, hl, he => by
    rw [spNm_s] at he ⊢
    by_cases d : isDg (v q)
    · rw [if_pos d] at he ⊢
      by_cases c : 10 * a - (v q - 48) < lim
      · rw [if_pos c] at he
        exact absurd (show 0 ≤ -1 - q from he) (by omega)
      · rw [if_neg c] at he ⊢
        obtain ⟨e1, e2, e3, e4⟩ := spNm_v f (q + 1) (10 * a - (v q - 48)) (by omega) (by omega) (by omega) he
        refine ⟨e1, e2, by omega, Int.le_trans e4 ?_⟩
        generalize (spNm v lim f (q + 1) (10 * a - (v q - 48))).1 = e at *
        rw [show (e - q).toNat = (e - (q + 1)).toNat + 1 by omega, Int.pow_succ, show (1 - a) * (10 ^ (e - (q + 1)).toNat * 10) = ((1 - a) * 10) * 10 ^ (e - (q + 1)).toNat by rw [Int.mul_comm (10 ^ _) 10, Int.mul_assoc]]
        exact Int.mul_le_mul_of_nonneg_right (by omega) (Int.pow_nonneg (by omega))
    · rw [if_neg d] at he ⊢
      show lim ≤ a ∧ a ≤ 0 ∧ q ≤ q ∧ 1 - a ≤ (1 - a) * 10 ^ (q - q).toNat
      rw [show (q - q).toNat = 0 by omega]
      omega
theorem p128 : ∀ n : Nat, 2 * (10 : Int) ^ (n + 1) ≤ 128 ^ (n + 1)
  | 0 => by decide
  | n + 1 => by
    have := p128 n
    rw [Int.pow_succ 10, Int.pow_succ 128]
    have h0 : (0 : Int) ≤ 10 ^ (n + 1) := Int.pow_nonneg (by omega)
    omega
theorem spZb_num {a : Int} {n : Nat} (hn : 1 ≤ n) (h1 : 1 - a ≤ 10 ^ n) (h2 : 1 + a ≤ 10 ^ n) (f : Nat) : (spZb f (spZz a)).length ≤ n := by
  obtain ⟨k, rfl⟩ : ∃ k, n = k + 1 := ⟨n - 1, by omega⟩
  apply spZb_le
  have p := p128 k
  have hz : (spZz a : Int) < 128 ^ (k + 1) := by
    unfold spZz
    split <;> omega
  have : ((128 ^ (k + 1) : Nat) : Int) = (128 : Int) ^ (k + 1) := by rw [Int.natCast_pow]; rfl
  omega
theorem spNum_v {v : Int → Int} {w : Bool} {q : Int} (q0 : 0 ≤ q) (he : 0 ≤ (spNum v w q).1) : -9223372036854775808 ≤ (spNum v w q).2 ∧ (spNum v w q).2 < 9223372036854775808 ∧ ((spZb 9 (spZz (spNum v w q).2)).length : Int) ≤ (spNum v w q).1 - q := by
  have l1 : spLim w true ≤ 0 ∧ -9223372036854775808 ≤ spLim w true := by unfold spLim; cases w <;> decide
  have l2 : spLim w false ≤ 0 ∧ -9223372036854775807 ≤ spLim w false := by unfold spLim; cases w <;> decide
  have dg : ∀ (lim : Int) (p : Int), isDg (v p) → 0 ≤ (spNm v lim 20 p 0).1 → 0 ≤ p → lim ≤ 0 → p + 1 ≤ (spNm v lim 20 p 0).1 := by
    intro lim p d he' p0 hl
    rw [spNm_s, if_pos d] at he' ⊢
    by_cases c : 10 * 0 - (v p - 48) < lim
    · rw [if_pos c] at he'
      exact absurd (show 0 ≤ -1 - p from he') (by omega)
    · rw [if_neg c] at he' ⊢
      exact (spNm_v 19 (p + 1) (10 * 0 - (v p - 48)) (by omega) (by omega) (by omega) he').2.2.1
  unfold spNum at he ⊢
  by_cases c1 : v q = 45
  · rw [if_pos c1] at he ⊢
    by_cases c2 : ¬ isDg (v (q + 1)) ∨ v (q + 1) = 48
    · rw [if_pos c2] at he
      exact absurd (show 0 ≤ -1 - (q + 1) from he) (by omega)
    · rw [if_neg c2] at he ⊢
      have d := dg _ (q + 1) (by omega) he (by omega) l1.1
      obtain ⟨e1, e2, e3, e4⟩ := spNm_v 20 (q + 1) 0 (by omega) (by omega) l1.1 he
      generalize spNm v (spLim w true) 20 (q + 1) 0 = r at *
      have := spZb_num (a := r.2) (n := (r.1 - (q + 1)).toNat) (by omega) (by omega) (by omega) 9
      exact ⟨by omega, by omega, by omega⟩
  · rw [if_neg c1] at he ⊢
    by_cases c2 : ¬ isDg (v q)
    · rw [if_pos c2] at he
      exact absurd (show 0 ≤ -1 - q from he) (by omega)
    · rw [if_neg c2] at he ⊢
      by_cases c3 : v q = 48
      · rw [if_pos c3]
        refine ⟨by show _ ≤ (0 : Int); omega, by show (0 : Int) < _; omega, ?_⟩
        show (((spZb 9 (spZz 0)).length : Nat) : Int) ≤ q + 1 - q
        rw [show (spZb 9 (spZz 0)).length = 1 from by decide]
        omega
      · rw [if_neg c3] at he ⊢
        have d := dg _ q (by omega) he (by omega) l2.1
        obtain ⟨e1, e2, e3, e4⟩ := spNm_v 20 q 0 (by omega) (by omega) l2.1 he
        generalize spNm v (spLim w false) 20 q 0 = r at *
        have := spZb_num (a := -r.2) (n := (r.1 - q).toNat) (by omega) (by omega) (by omega) 9
        exact ⟨by show _ ≤ -r.2; omega, by show -r.2 < _; omega, by show ((spZb 9 (spZz (-r.2))).length : Int) ≤ r.1 - q; omega⟩
theorem Vr_numL {m : Nat} {g : ax_Hp} {K : Nat → Nat} {v : Int → Int} {vr sc : Nat} {val : Bool} {lim neg : Int} (h : kOk K) (X : vrX g K vr sc val) (V : cvX g K v) (hneg : (neg = 0 ∧ -9223372036854775807 ≤ lim) ∨ (neg = 1 ∧ -9223372036854775808 ≤ lim)) (hlim : lim ≤ -100) : ∀ (f : Nat) (s : cS) (a : Int) (fuel : Nat), 0 ≤ s.1 → s.1 ≤ 160 → lim ≤ a → a ≤ 0 → f ≤ 20 → (0 ≤ (spNm v lim f s.1 a).1 → bRm K s (spZb 9 (spZz (if neg = 0 then -(spNm v lim f s.1 a).2 else (spNm v lim f s.1 a).2))).length) → f < fuel → ∃ s', ValueReader_readNumber_lp81 (ax_F (m + 2)) fuel (some vr) (Int32.ofInt neg) (Int64.ofInt a) (Int64.ofInt lim) (Int32.ofInt (20 - f)) (cH g K s) = some (.inl (some (ax_I (Int32.ofInt (if 0 ≤ (spNm v lim f s.1 a).1 then 1 else 0)))), cH g K s') ∧ vEnd s' (spNm v lim f s.1 a).1 ∧ mkE s s' ∧ (0 ≤ (spNm v lim f s.1 a).1 → bsE K s s' (spZb 9 (spZz (if neg = 0 then -(spNm v lim f s.1 a).2 else (spNm v lim f s.1 a).2)))) := by
  have last : ∀ (s : cS) (a : Int), 0 ≤ s.1 → lim ≤ a → a ≤ 0 → bRm K s (spZb 9 (spZz (if neg = 0 then -a else a))).length → ∃ s', (if Int32.ofInt neg = 0 then ax_on (cH g K s) (some vr) 7 <| ax_cv (ax_F (m + 2) 48 [ax_A (some vr), ax_L (-(Int64.ofInt a))] (cH g K s)) fun h12 => ax_rz 1 h12 else ax_on (cH g K s) (some vr) 7 <| ax_cv (ax_F (m + 2) 48 [ax_A (some vr), ax_L (Int64.ofInt a)] (cH g K s)) fun h14 => ax_rz 1 h14) = some (.inl (some (ax_I (Int32.ofInt 1))), cH g K s') ∧ s'.1 = s.1 ∧ mkE s s' ∧ bsE K s s' (spZb 9 (spZz (if neg = 0 then -a else a))) := by
    intro s a s0 a0 a1 r
    rcases hneg with ⟨n0, n1⟩ | ⟨n0, n1⟩
    · rw [if_pos n0] at r ⊢
      rw [if_pos (by rw [n0]; rfl), vr_on X, zl_neg]
      obtain ⟨s', e, e1, e2, e3⟩ := Vr_addN (m := m) h X (a := -a) (by omega) (by omega) r
      exact ⟨s', by rw [pl_cv e]; exact za_rz (v := 1) (Or.inr rfl), e1, e2, e3⟩
    · rw [if_neg (show ¬ neg = 0 from by omega)] at r ⊢
      rw [if_neg (by rw [n0]; decide), vr_on X]
      obtain ⟨s', e, e1, e2, e3⟩ := Vr_addN (m := m) h X (a := a) (by omega) (by omega) r
      exact ⟨s', by rw [pl_cv e]; exact za_rz (v := 1) (Or.inr rfl), e1, e2, e3⟩
  intro f
  induction f with
  | zero =>
    intro s a fuel q0 q1 a0 a1 hf r hfu
    obtain ⟨fuel, rfl⟩ : ∃ g, fuel = g + 1 := ⟨fuel - 1, by omega⟩
    have hstep : ValueReader_readNumber_lp81 (ax_F (m + 2)) (fuel + 1) = ValueReader_readNumber_bd81 (ax_F (m + 2)) (ValueReader_readNumber_lp81 (ax_F (m + 2)) fuel) := rfl
    have e : spNm v lim 0 s.1 a = (s.1, a) := rfl
    rw [e] at r ⊢
    obtain ⟨s', e1, e2, e3, e4⟩ := last s a q0 a0 a1 (r q0)
    refine ⟨s', ?_, ?_, e3, fun _ => e4⟩
    · rw [hstep]
      unfold ValueReader_readNumber_bd81
      rw [if_pos (show (20 : Int32) ≤ Int32.ofInt (20 - ((0 : Nat) : Int)) from by decide), if_pos (show 0 ≤ s.1 from q0)]
      exact e1
    · unfold vEnd; rw [if_pos (show 0 ≤ s.1 from q0)]; exact e2
  | succ f ih =>
    intro s a fuel q0 q1 a0 a1 hf r hfu
    obtain ⟨fuel, rfl⟩ : ∃ g, fuel = g + 1 := ⟨fuel - 1, by omega⟩
    have hstep : ValueReader_readNumber_lp81 (ax_F (m + 2)) (fuel + 1) = ValueReader_readNumber_bd81 (ax_F (m + 2)) (ValueReader_readNumber_lp81 (ax_F (m + 2)) fuel) := rfl
    have b := pk_b V q0
    rw [hstep]
    unfold ValueReader_readNumber_bd81
    rw [if_neg (show ¬ (20 : Int32) ≤ Int32.ofInt (20 - ((f + 1 : Nat) : Int)) from by rw [show (20 : Int32) = Int32.ofInt 20 from rfl, zi_le (by omega) (by omega) (by omega) (by omega)]; omega), vr_gr0 X, Option.bind_some, cu_on, pl_ci (Cu_pk h V q0 (by omega)), pl_ci (De_dig b.1 b.2.1)]
    rw [spNm_s] at r ⊢
    by_cases d : isDg (v s.1)
    · have d' : isDg (pk K v s.1) := by rw [b.2.2.1 (by omega)]; exact d
      rw [if_pos d] at r ⊢
      simp only [if_pos d']
      rw [if_neg (show ¬ Int32.ofInt 1 = 0 from by decide), vr_gr0 X, Option.bind_some, cu_on, pl_ci (Cu_pk h V q0 (by omega)), b.2.2.1 (by omega), show (48 : Int32) = Int32.ofInt 48 from rfl, zi_sub, zl_of32 (by omega) (by omega), zl_div10 (by omega) (by omega), show ∀ k, ax_nzl 10 k = k from fun k => if_neg (by decide)]
      have t1 := @tdiv10 a lim (by omega)
      have t2 : lim.tdiv 10 ≤ 0 ∧ -9223372036854775808 ≤ lim.tdiv 10 := by
        have z1 := @tdiv10 0 lim (by omega)
        have z2 := @tdiv10 (lim.tdiv 10) lim (by omega)
        omega
      have lt0 : (lg_cmp (Int64.ofInt a) (Int64.ofInt (lim.tdiv 10)) < 0) ↔ ¬ lim ≤ 10 * a := by
        rw [← Int32.not_le, zl_cmp_ge, zl_le (by omega) (by omega) (by omega) (by omega), t1]
      have dg := d
      by_cases c1 : lim ≤ 10 * a
      · rw [if_neg (fun z => lt0.mp z c1), show (10 : Int64) = Int64.ofInt 10 from rfl, zl_mul, zl_add]
        have ge0 : (0 ≤ lg_cmp (Int64.ofInt (a * 10)) (Int64.ofInt (lim + (v s.1 - 48)))) ↔ lim + (v s.1 - 48) ≤ a * 10 := by
          rw [zl_cmp_ge, zl_le (by omega) (by omega) (by omega) (by omega)]
        by_cases c2 : 10 * a - (v s.1 - 48) < lim
        · rw [if_pos c2, if_neg (fun z => by have := ge0.mp z; omega)]
          refine ⟨s, ?_, ?_, mkE_refl s, fun z => absurd (show 0 ≤ -1 - s.1 from z) (by omega)⟩
          · rw [if_neg (show ¬ 0 ≤ -1 - s.1 from by omega)]
            exact za_rz (v := 0) (Or.inl rfl)
          · unfold vEnd; rw [if_neg (show ¬ 0 ≤ -1 - s.1 from by omega)]; show _ = -1 - (-1 - s.1); omega
        · rw [if_neg c2] at r ⊢
          rw [if_pos (ge0.mpr (by omega)), vr_gr0 X, Option.bind_some, cu_on, pl_cv (Cu_stepN h V q0 (by omega) (by omega)), zl_sub, show (1 : Int32) = Int32.ofInt 1 from rfl, zi_add, show 20 - ((f + 1 : Nat) : Int) + 1 = 20 - (f : Int) by omega, show a * 10 - (v s.1 - 48) = 10 * a - (v s.1 - 48) by omega]
          have hl := (pk_b V q0).2.2.2.2.2 (by omega)
          have k7 := h.2.1
          exact ih (cAt s (s.1 + 1)) (10 * a - (v s.1 - 48)) fuel (by show 0 ≤ s.1 + 1; omega) (by show s.1 + 1 ≤ 160; omega) (by omega) (by omega) (by omega) r (by omega)
      · rw [if_pos (lt0.mpr c1), if_pos (show 10 * a - (v s.1 - 48) < lim from by omega)]
        refine ⟨s, ?_, ?_, mkE_refl s, fun z => absurd (show 0 ≤ -1 - s.1 from z) (by omega)⟩
        · rw [if_neg (show ¬ 0 ≤ -1 - s.1 from by omega)]
          exact za_rz (v := 0) (Or.inl rfl)
        · unfold vEnd; rw [if_neg (show ¬ 0 ≤ -1 - s.1 from by omega)]; show _ = -1 - (-1 - s.1); omega
    · have d' : ¬ isDg (pk K v s.1) := fun z => by omega
      rw [if_neg d] at r ⊢
      simp only [if_neg d']
      rw [if_pos (show Int32.ofInt 0 = 0 from rfl)]
      obtain ⟨s', e1, e2, e3, e4⟩ := last s a q0 a0 a1 (r q0)
      refine ⟨s', ?_, ?_, e3, fun _ => e4⟩
      · rw [if_pos (show 0 ≤ s.1 from q0)]
        exact e1
      · unfold vEnd; rw [if_pos (show 0 ≤ s.1 from q0)]; exact e2
theorem cAt_1 (s : cS) (v : Int) : (cAt s v).1 = v := rfl
theorem Vr_num {m : Nat} {g : ax_Hp} {K : Nat → Nat} {v : Int → Int} {vr sc : Nat} {val : Bool} {s : cS} {w : Bool} (h : kOk K) (X : vrX g K vr sc val) (V : cvX g K v) (q0 : 0 ≤ s.1) (q1 : s.1 ≤ 160) (r : 0 ≤ (spNum v w s.1).1 → bRm K s (spZb 9 (spZz (spNum v w s.1).2)).length) : ∃ s', ax_F (m + 3) 47 [ax_A (some vr), ax_L (if w then 9223372036854775807 else 2147483647)] (cH g K s) = some (.inl (some (ax_I (Int32.ofInt (if 0 ≤ (spNum v w s.1).1 then 1 else 0)))), cH g K s') ∧ vEnd s' (spNum v w s.1).1 ∧ mkE s s' ∧ (0 ≤ (spNum v w s.1).1 → bsE K s s' (spZb 9 (spZz (spNum v w s.1).2))) := by
  have hl0 : -(if w then (9223372036854775807 : Int64) else 2147483647) = Int64.ofInt (spLim w false) := by cases w <;> rfl
  have hl1 : -(if w then (9223372036854775807 : Int64) else 2147483647) - 1 = Int64.ofInt (spLim w true) := by cases w <;> rfl
  have l1 : spLim w true ≤ -100 ∧ -9223372036854775808 ≤ spLim w true := by unfold spLim; cases w <;> decide
  have l2 : spLim w false ≤ -100 ∧ -9223372036854775807 ≤ spLim w false := by unfold spLim; cases w <;> decide
  have k7 := h.2.1
  have flt : ∀ (s1 : cS) (p : Int), s1.1 = p → 0 ≤ p → s1.2 = s.2 → ax_rz 0 (cH g K s1) = some (.inl (some (ax_I (Int32.ofInt (if 0 ≤ -1 - p then 1 else 0)))), cH g K s1) ∧ vEnd s1 (-1 - p) ∧ mkE s s1 := by
    intro s1 p e p0 e2
    refine ⟨?_, ?_, by rw [e2], by rw [e2], by rw [e2]⟩
    · rw [if_neg (show ¬ 0 ≤ -1 - p from by omega)]
      exact za_rz (v := 0) (Or.inl rfl)
    · unfold vEnd; rw [if_neg (show ¬ 0 ≤ -1 - p from by omega)]; omega
  rw [ValueReader_readNumber_F]
  unfold ValueReader_readNumber_b
  rw [vr_gr0 X, Option.bind_some, cu_on, show (45 : Int32) = Int32.ofInt 45 from rfl, pl_ci (Cu_take h V q0 (by omega) (by decide) (by decide))]
  have b := pk_b V q0
  unfold spNum at r ⊢
  by_cases c1 : v s.1 = 45
  · rw [if_pos c1] at r ⊢
    simp only [if_pos c1]
    have b1 := pk_b V (q := s.1 + 1) (by omega)
    have hq7 := b.2.2.2.2.2 (by omega)
    rw [if_neg (show ¬ Int32.ofInt 1 = 0 from by decide), vr_gr0 X, Option.bind_some, cu_on, pl_ci (Cu_pk (s := cAt s (s.1 + 1)) h V (show 0 ≤ s.1 + 1 by omega) (show s.1 + 1 ≤ 1000 by omega)), cAt_1, pl_ci (De_dig (x := pk K v (s.1 + 1)) b1.1 b1.2.1)]
    by_cases d : isDg (v (s.1 + 1))
    · have d' : isDg (pk K v (s.1 + 1)) := by rw [b1.2.2.1 (by omega)]; exact d
      simp only [if_pos d']
      rw [if_neg (show ¬ Int32.ofInt 1 = 0 from by decide), vr_gr0 X, Option.bind_some, cu_on, pl_ci (Cu_pk (s := cAt s (s.1 + 1)) h V (show 0 ≤ s.1 + 1 by omega) (show s.1 + 1 ≤ 1000 by omega)), show pk K v (cAt s (s.1 + 1)).1 = v (s.1 + 1) from b1.2.2.1 (by omega)]
      by_cases c2 : v (s.1 + 1) = 48
      · rw [if_pos (show Int32.ofInt (v (s.1 + 1)) = 48 from by rw [c2]; rfl), if_pos (Or.inr c2)]
        obtain ⟨f1, f2, f3⟩ := flt (cAt s (s.1 + 1)) (s.1 + 1) rfl (by omega) rfl
        exact ⟨_, f1, f2, f3, fun z => absurd (show 0 ≤ -1 - (s.1 + 1) from z) (by omega)⟩
      · rw [if_neg (show ¬ Int32.ofInt (v (s.1 + 1)) = 48 from by rw [show (48 : Int32) = Int32.ofInt 48 from rfl, zi_eq (by omega) (by omega) (by omega) (by omega)]; exact c2), if_neg (show ¬ Int32.ofInt 1 = 0 from by decide), hl1]
        rw [if_neg (show ¬ (¬ isDg (v (s.1 + 1)) ∨ v (s.1 + 1) = 48) from fun z => by omega)] at r ⊢
        have := Vr_numL (m := m) (g := g) (lim := spLim w true) (neg := 1) h X V (Or.inr ⟨rfl, l1.2⟩) l1.1 20 (cAt s (s.1 + 1)) 0 ax_fuel (show 0 ≤ s.1 + 1 by omega) (show s.1 + 1 ≤ 160 by omega) (by omega) (by omega) (by omega) r (by unfold ax_fuel; omega)
        exact this
    · have d' : ¬ isDg (pk K v (s.1 + 1)) := fun z => by omega
      simp only [if_neg d']
      rw [if_pos (show Int32.ofInt 0 = 0 from rfl), if_pos (Or.inl d)]
      obtain ⟨f1, f2, f3⟩ := flt (cAt s (s.1 + 1)) (s.1 + 1) rfl (by omega) rfl
      exact ⟨_, f1, f2, f3, fun z => absurd (show 0 ≤ -1 - (s.1 + 1) from z) (by omega)⟩
  · rw [if_neg c1] at r ⊢
    simp only [if_neg c1]
    rw [if_pos (show Int32.ofInt 0 = 0 from rfl), vr_gr0 X, Option.bind_some, cu_on, show (48 : Int32) = Int32.ofInt 48 from rfl, pl_ci (Cu_take h V q0 (by omega) (by decide) (by decide))]
    by_cases c2 : v s.1 = 48
    · have d : isDg (v s.1) := by omega
      rw [if_neg (show ¬ ¬ isDg (v s.1) from fun z => z d), if_pos c2] at r ⊢
      simp only [if_pos c2]
      rw [if_neg (show ¬ Int32.ofInt 1 = 0 from by decide), vr_on X]
      obtain ⟨s', e, e1, e2, e3⟩ := Vr_addN (m := m) (s := cAt s (s.1 + 1)) h X (a := 0) (by omega) (by omega) (r (show 0 ≤ s.1 + 1 by omega))
      refine ⟨s', ?_, ?_, e2, fun _ => e3⟩
      · rw [show (0 : Int64) = Int64.ofInt 0 from rfl, pl_cv e, if_pos (show 0 ≤ s.1 + 1 by omega)]
        exact za_rz (v := 1) (Or.inr rfl)
      · unfold vEnd; rw [if_pos (show 0 ≤ s.1 + 1 by omega)]; exact e1
    · simp only [if_neg c2]
      rw [if_pos (show Int32.ofInt 0 = 0 from rfl), vr_gr0 X, Option.bind_some, cu_on, pl_ci (Cu_pk h V q0 (by omega)), pl_ci (De_dig b.1 b.2.1)]
      by_cases d : isDg (v s.1)
      · have d' : isDg (pk K v s.1) := by rw [b.2.2.1 (by omega)]; exact d
        rw [if_neg (show ¬ ¬ isDg (v s.1) from fun z => z d), if_neg c2] at r
        rw [if_neg (show ¬ ¬ isDg (v s.1) from fun z => z d)]
        simp only [if_pos d']
        rw [if_neg (show ¬ Int32.ofInt 1 = 0 from by decide), vr_gr0 X, Option.bind_some, cu_on, pl_ci (Cu_pk h V q0 (by omega)), b.2.2.1 (by omega), if_neg (show ¬ Int32.ofInt (v s.1) = Int32.ofInt 48 from by rw [zi_eq (by omega) (by omega) (by omega) (by omega)]; exact c2), if_pos (show Int32.ofInt 0 = 0 from rfl), hl0]
        exact Vr_numL (m := m) (g := g) (lim := spLim w false) (neg := 0) h X V (Or.inl ⟨rfl, l2.2⟩) l2.1 20 s 0 ax_fuel q0 q1 (by omega) (by omega) (by omega) r (by unfold ax_fuel; omega)
      · have d' : ¬ isDg (pk K v s.1) := fun z => by omega
        simp only [if_neg d']
        rw [if_pos (show Int32.ofInt 0 = 0 from rfl), if_pos d]
        obtain ⟨f1, f2, f3⟩ := flt s s.1 rfl (by omega) rfl
        exact ⟨_, f1, f2, f3, fun z => absurd (show 0 ≤ -1 - s.1 from z) (by omega)⟩
