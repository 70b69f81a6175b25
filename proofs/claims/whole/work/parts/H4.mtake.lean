/-- the reference's stream -/
def isS (s : mS) (N : Nat) (b : Int → Int) : Prop := s.1 3 = N ∧ N ≤ 64 ∧ bSt b N ∧ ∀ p : Int, 0 ≤ p → p < N → s.2.2.1 4 p.toNat = b p
theorem Model_byteAt_z {m N : Nat} {h : ax_Hp} {s : mS} {b : Int → Int} {q : Int} (S : isS s N b) (q0 : 0 ≤ q) (q1 : q ≤ 1000) : ax_F (m + 1) 197 [ax_A (some 24), ax_I (Int32.ofInt q)] (mH h s) = some (.inl (some (ax_I (Int32.ofInt (b q)))), mH h s) := by
  obtain ⟨s1, s2, s3, s4⟩ := S
  rw [Model_byteAt_F]
  unfold Model_byteAt_b
  rw [mgi_3, Option.bind_some, s1]
  by_cases c1 : q < N
  · rw [if_neg (show ¬ Int32.ofInt N ≤ Int32.ofInt q from by rw [zi_le (by omega) (by omega) (by omega) (by omega)]; omega), mgr_4, Option.bind_some, mld_4 _ _ _ q0 (by omega), Option.bind_some, s4 q q0 c1]
    rfl
  · rw [if_pos (show Int32.ofInt N ≤ Int32.ofInt q from by rw [zi_le (by omega) (by omega) (by omega) (by omega)]; omega), s3.2 q (by omega)]
    rfl
theorem Model_half_z {m N : Nat} {h : ax_Hp} {s : mS} {b : Int → Int} {q mm : Int} (S : isS s N b) (q0 : 0 ≤ q) (q1 : q ≤ N) (m0 : 0 ≤ mm) (m1 : mm ≤ 1000) : ax_F (m + 2) 196 [ax_A (some 24), ax_I (Int32.ofInt q), ax_I (Int32.ofInt mm)] (mH h s) = some (.inl (some (ax_I (Int32.ofInt (if hfO b mm q then q + 1 else -1 - q)))), mH h (if hfO b mm q then mL s (b q / 2) else s)) := by
  have n64 := S.2.1
  have bb := bSt_b S.2.2.1 q0
  have no : ¬ hfO b mm q → Model_takeHalf_jn24 (ax_F (m + 1)) (Int32.ofInt q) (mH h s) = some (.inl (some (ax_I (Int32.ofInt (if hfO b mm q then q + 1 else -1 - q)))), mH h (if hfO b mm q then mL s (b q / 2) else s)) := fun c => by
    unfold Model_takeHalf_jn24
    rw [if_neg c, if_neg c, show (-1 : Int32) = Int32.ofInt (-1) from rfl, zi_sub]
    rfl
  rw [Model_takeHalf_F]
  unfold Model_takeHalf_b
  rw [mS_on, pl_ci (Model_byteAt_z S q0 (by omega))]
  by_cases c1 : b q < 0
  · rw [if_pos (show Int32.ofInt (b q) < 0 from by rw [zi_0, zi_lt (by omega) (by omega) (by omega) (by omega)]; exact c1)]
    exact no (fun z => by have := z.1; omega)
  · obtain ⟨d1, -⟩ := byd (a := b q) (by omega) bb.2.1
    rw [if_neg (show ¬ Int32.ofInt (b q) < 0 from by rw [zi_0, zi_lt (by omega) (by omega) (by omega) (by omega)]; exact c1), nz2, d1, show (2 : Int32) = Int32.ofInt 2 from rfl, zi_mul, zi_sub, show (Int32.ofInt 2 : Int32) = 2 from rfl, nz2, nz2]
    by_cases c2 : b q % 2 = 0
    · rw [if_neg (show ¬ Int32.ofInt (b q - b q / 2 * 2) = 1 from by rw [show (1 : Int32) = Int32.ofInt 1 from rfl, zi_eq (by omega) (by omega) (by omega) (by omega)]; omega)]
      by_cases c3 : b q / 2 < mm
      · have hh : hfO b mm q := ⟨by omega, c2, c3⟩
        rw [if_pos (show Int32.ofInt (b q / 2) < Int32.ofInt mm from by rw [zi_lt (by omega) (by omega) (by omega) (by omega)]; exact c3), zl_of32 (by omega) (by omega), mpf_37, Option.bind_some, show (1 : Int32) = Int32.ofInt 1 from rfl, zi_add, if_pos hh, if_pos hh]
        rfl
      · rw [if_neg (show ¬ Int32.ofInt (b q / 2) < Int32.ofInt mm from by rw [zi_lt (by omega) (by omega) (by omega) (by omega)]; exact c3)]
        exact no (fun z => c3 z.2.2)
    · rw [if_pos (show Int32.ofInt (b q - b q / 2 * 2) = 1 from by rw [show (1 : Int32) = Int32.ofInt 1 from rfl, zi_eq (by omega) (by omega) (by omega) (by omega)]; omega)]
      exact no (fun z => c2 z.2.1)
theorem Model_tstr_l {m N : Nat} {h : ax_Hp} {s : mS} {b : Int → Int} {n : Nat} (S : isS s N b) (hn : s.2.1 = n) (h12 : n ≤ 12) : ∀ (k i fuel : Nat) (q : Int), i + k = n → 0 ≤ q → q ≤ N → k < fuel → Model_takeString_lp16 (ax_F (m + 1)) fuel (some 24) (Int32.ofInt q) (Int32.ofInt i) (mH h s) = some (.inl (some (ax_I (Int32.ofInt (stE b k q)))), mH h s)
  | 0, i, fuel, q, hi, q0, q1, hf => by
    obtain ⟨fuel, rfl⟩ : ∃ g, fuel = g + 1 := ⟨fuel - 1, by omega⟩
    have hstep : Model_takeString_lp16 (ax_F (m + 1)) (fuel + 1) = Model_takeString_bd16 (ax_F (m + 1)) (Model_takeString_lp16 (ax_F (m + 1)) fuel) := rfl
    rw [hstep]
    unfold Model_takeString_bd16
    rw [mgl_37, Option.bind_some, hn, zl_of32 (by omega) (by omega), if_pos ((zl_cmp_ge _ _).mpr (by rw [zl_le (by omega) (by omega) (by omega) (by omega)]; omega))]
    rfl
  | k + 1, i, fuel, q, hi, q0, q1, hf => by
    obtain ⟨fuel, rfl⟩ : ∃ g, fuel = g + 1 := ⟨fuel - 1, by omega⟩
    have hstep : Model_takeString_lp16 (ax_F (m + 1)) (fuel + 1) = Model_takeString_bd16 (ax_F (m + 1)) (Model_takeString_lp16 (ax_F (m + 1)) fuel) := rfl
    have n64 := S.2.1
    have bb := bSt_b S.2.2.1 q0
    have no : ¬ chO b q → Model_takeString_jn54 (ax_F (m + 1)) (Int32.ofInt q) (mH h s) = some (.inl (some (ax_I (Int32.ofInt (if chO b q then stE b k (q + 1) else -1 - q)))), mH h s) := fun c => by
      unfold Model_takeString_jn54
      rw [if_neg c, show (-1 : Int32) = Int32.ofInt (-1) from rfl, zi_sub]
      rfl
    rw [hstep, show stE b (k + 1) q = if chO b q then stE b k (q + 1) else -1 - q from rfl]
    unfold Model_takeString_bd16
    rw [mgl_37, Option.bind_some, hn, zl_of32 (by omega) (by omega), if_neg (fun z => by have := (zl_cmp_ge _ _).mp z; rw [zl_le (by omega) (by omega) (by omega) (by omega)] at this; omega), mS_on, pl_ci (Model_byteAt_z S q0 (by omega))]
    by_cases c1 : b q < 32
    · rw [if_pos (show Int32.ofInt (b q) < 32 from by rw [show (32 : Int32) = Int32.ofInt 32 from rfl, zi_lt (by omega) (by omega) (by omega) (by omega)]; exact c1)]
      exact no (fun z => by have := z.1; omega)
    · rw [if_neg (show ¬ Int32.ofInt (b q) < 32 from by rw [show (32 : Int32) = Int32.ofInt 32 from rfl, zi_lt (by omega) (by omega) (by omega) (by omega)]; exact c1)]
      by_cases c2 : 126 < b q
      · rw [if_pos (show (126 : Int32) < Int32.ofInt (b q) from by rw [show (126 : Int32) = Int32.ofInt 126 from rfl, zi_lt (by omega) (by omega) (by omega) (by omega)]; exact c2)]
        exact no (fun z => by have := z.2.1; omega)
      · rw [if_neg (show ¬ (126 : Int32) < Int32.ofInt (b q) from by rw [show (126 : Int32) = Int32.ofInt 126 from rfl, zi_lt (by omega) (by omega) (by omega) (by omega)]; exact c2)]
        by_cases c3 : b q = 34
        · rw [if_pos (show Int32.ofInt (b q) = 34 from by rw [c3]; rfl)]
          exact no (fun z => z.2.2 c3)
        · have lt := bb.2.2.1 (by omega)
          rw [if_neg (show ¬ Int32.ofInt (b q) = 34 from by rw [show (34 : Int32) = Int32.ofInt 34 from rfl, zi_eq (by omega) (by omega) (by omega) (by omega)]; exact c3), if_pos (show chO b q from ⟨by omega, by omega, c3⟩), show (1 : Int32) = Int32.ofInt 1 from rfl, zi_add, zi_add, show (i : Int) + 1 = ((i + 1 : Nat) : Int) by omega]
          exact Model_tstr_l S hn h12 k (i + 1) fuel (q + 1) (by omega) (by omega) (by omega) (by omega)
theorem Model_tstr_z {m N : Nat} {h : ax_Hp} {s : mS} {b : Int → Int} {q : Int} (S : isS s N b) (q0 : 0 ≤ q) (q1 : q ≤ N) : ax_F (m + 3) 199 [ax_A (some 24), ax_I (Int32.ofInt q)] (mH h s) = some (.inl (some (ax_I (Int32.ofInt (spSt b q)))), mH h (if hfO b 13 q then mL s (b q / 2) else s)) := by
  have n64 := S.2.1
  have bb := bSt_b S.2.2.1 q0
  rw [Model_takeString_F]
  unfold Model_takeString_b spSt
  rw [mS_on, pl_ci (show ax_F (m + 2) 196 [ax_A (some 24), ax_I (Int32.ofInt q), ax_I 13] (mH h s) = _ from Model_half_z (mm := 13) S q0 q1 (by omega) (by omega))]
  by_cases c : hfO b 13 q
  · have lt := bb.2.2.1 c.1
    obtain ⟨c1, c2, c3⟩ := c
    have c : hfO b 13 q := ⟨c1, c2, c3⟩
    have S' : isS (mL s (b q / 2)) N b := S
    rw [if_pos c, if_pos c, if_pos c, if_pos (show (0 : Int32) ≤ Int32.ofInt (q + 1) from by rw [zi_0, zi_le (by omega) (by omega) (by omega) (by omega)]; omega)]
    exact Model_tstr_l (n := (b q / 2).toNat) S' (by show b q / 2 = _; omega) (by omega) (b q / 2).toNat 0 ax_fuel (q + 1) (by omega) (by omega) (by omega) (by unfold ax_fuel; omega)
  · rw [if_neg c, if_neg c, if_neg c, if_neg (show ¬ (0 : Int32) ≤ Int32.ofInt (-1 - q) from by rw [zi_0, zi_le (by omega) (by omega) (by omega) (by omega)]; omega)]
    rfl
theorem Model_tnum_0 {m : Nat} {h : ax_Hp} {s : mS} {x1 x3 x4 x5 : Int32} {z : Int64} {fuel : Nat} : Model_takeNumber_lp32 (ax_F m) (fuel + 1) (some 24) x1 x3 x4 x5 z 0 (mH h s) = some (.inl (some (ax_I x5)), mH h (mL s (nrV z).toInt)) := by
  have hstep : Model_takeNumber_lp32 (ax_F m) (fuel + 1) = Model_takeNumber_bd32 (ax_F m) (Model_takeNumber_lp32 (ax_F m) fuel) := rfl
  have p : ∀ w : Int64, ax_pf (mH h s) (some 24) 9 37 (ax_L w) = some (mH h (mL s w.toInt)) := fun w => by
    have := mpf_37 h s w.toInt
    rw [Int64.ofInt_toInt] at this
    exact this
  rw [hstep]
  unfold Model_takeNumber_bd32 Model_takeNumber_jn145 nrV
  rw [if_pos rfl]
  by_cases q : z &&& 1 = 0
  · rw [if_pos ((lg_eq _ _).mpr q), if_pos q, p, Option.bind_some]
    rfl
  · rw [if_neg (fun w => q ((lg_eq _ _).mp w)), if_neg q, p, Option.bind_some]
    rfl
theorem Model_tnum_l {m N : Nat} {h : ax_Hp} {s : mS} {b : Int → Int} {lg : Bool} {q : Int} (S : isS s N b) (q0 : 0 ≤ q) : ∀ (r k fuel : Nat) (z : Int64), r + k = nrI lg → q + k ≤ N → r + 1 < fuel → Model_takeNumber_lp32 (ax_F (m + 1)) fuel (some 24) (Int32.ofInt q) (Int32.ofInt (nrI lg)) (Int32.ofInt (nrM lg)) (Int32.ofInt (q + k)) z 1 (mH h s) = some (.inl (some (ax_I (Int32.ofInt (nrE b (nrM lg) r (decide (k = 0)) (q + k))))), mH h (if 0 ≤ nrE b (nrM lg) r (decide (k = 0)) (q + k) then mL s (nrV (nrW b r k (q + k) z)).toInt else s)) := by
  obtain ⟨f1, f2, f3, f4, f5, f6, f7, f8⟩ := nr_f lg
  have n64 := S.2.1
  -- one byte
  have st : ∀ (r k fuel : Nat) (z : Int64), r + k = nrI lg → q + k ≤ N → Model_takeNumber_lp32 (ax_F (m + 1)) (fuel + 1) (some 24) (Int32.ofInt q) (Int32.ofInt (nrI lg)) (Int32.ofInt (nrM lg)) (Int32.ofInt (q + k)) z 1 (mH h s) = if b (q + k) < 0 ∨ (decide (k = 0) = false ∧ b (q + k) = 0) ∨ (r = 0 ∧ nrM lg < b (q + k)) then some (.inl (some (ax_I (Int32.ofInt (-1 - (q + k))))), mH h s) else Model_takeNumber_lp32 (ax_F (m + 1)) fuel (some 24) (Int32.ofInt q) (Int32.ofInt (nrI lg)) (Int32.ofInt (nrM lg)) (Int32.ofInt (q + k + 1)) (nrS b k (q + k) z) (if b (q + k) < 128 then 0 else 1) (mH h s) := fun r k fuel z hr hk => by
    have hstep : Model_takeNumber_lp32 (ax_F (m + 1)) (fuel + 1) = Model_takeNumber_bd32 (ax_F (m + 1)) (Model_takeNumber_lp32 (ax_F (m + 1)) fuel) := rfl
    have bb := bSt_b (i := q + k) S.2.2.1 (by omega)
    have no : Model_takeNumber_jn79 (ax_F (m + 1)) (Int32.ofInt (q + k)) (mH h s) = some (.inl (some (ax_I (Int32.ofInt (-1 - (q + k))))), mH h s) := by
      unfold Model_takeNumber_jn79
      rw [show (-1 : Int32) = Int32.ofInt (-1) from rfl, zi_sub]
      rfl
    rw [hstep]
    unfold Model_takeNumber_bd32
    rw [if_neg (by decide), mS_on, pl_ci (Model_byteAt_z S (by omega) (by omega))]
    by_cases c1 : b (q + k) < 0
    · rw [if_pos (show Int32.ofInt (b (q + k)) < 0 from by rw [zi_0, zi_lt (by omega) (by omega) (by omega) (by omega)]; exact c1), if_pos (Or.inl c1), no]
    · rw [if_neg (show ¬ Int32.ofInt (b (q + k)) < 0 from by rw [zi_0, zi_lt (by omega) (by omega) (by omega) (by omega)]; exact c1), zi_sub, show q + (k : Int) - q = k by omega]
      have j84 : Model_takeNumber_jn84 (ax_F (m + 1)) (Model_takeNumber_lp32 (ax_F (m + 1)) fuel) (some 24) (Int32.ofInt q) (Int32.ofInt (nrI lg)) (Int32.ofInt (nrM lg)) (Int32.ofInt (q + k)) z (Int32.ofInt k) (Int32.ofInt (b (q + k))) (mH h s) = Model_takeNumber_lp32 (ax_F (m + 1)) fuel (some 24) (Int32.ofInt q) (Int32.ofInt (nrI lg)) (Int32.ofInt (nrM lg)) (Int32.ofInt (q + k + 1)) (nrS b k (q + k) z) (if b (q + k) < 128 then 0 else 1) (mH h s) := by
        unfold Model_takeNumber_jn84 Model_takeNumber_jn113
        rw [show (7 : Int32) * Int32.ofInt k = Int32.ofInt (7 * (k : Int)) from by rw [show (7 : Int32) = Int32.ofInt 7 from rfl, zi_mul], show Int32.ofInt (q + k) + 1 = Int32.ofInt (q + k + 1) from by rw [show (1 : Int32) = Int32.ofInt 1 from rfl, zi_add]]
        by_cases e : b (q + k) < 128
        · rw [if_pos (show Int32.ofInt (b (q + k)) ≤ 127 from by rw [show (127 : Int32) = Int32.ofInt 127 from rfl, zi_le (by omega) (by omega) (by omega) (by omega)]; omega), if_pos e]
          rfl
        · rw [if_neg (show ¬ Int32.ofInt (b (q + k)) ≤ 127 from by rw [show (127 : Int32) = Int32.ofInt 127 from rfl, zi_le (by omega) (by omega) (by omega) (by omega)]; omega), if_neg e]
          rfl
      have j69 : Model_takeNumber_jn69 (ax_F (m + 1)) (Model_takeNumber_lp32 (ax_F (m + 1)) fuel) (some 24) (Int32.ofInt q) (Int32.ofInt (nrI lg)) (Int32.ofInt (nrM lg)) (Int32.ofInt (q + k)) z (Int32.ofInt k) (Int32.ofInt (b (q + k))) (mH h s) = if decide (k = 0) = false ∧ b (q + k) = 0 then some (.inl (some (ax_I (Int32.ofInt (-1 - (q + k))))), mH h s) else Model_takeNumber_lp32 (ax_F (m + 1)) fuel (some 24) (Int32.ofInt q) (Int32.ofInt (nrI lg)) (Int32.ofInt (nrM lg)) (Int32.ofInt (q + k + 1)) (nrS b k (q + k) z) (if b (q + k) < 128 then 0 else 1) (mH h s) := by
        unfold Model_takeNumber_jn69
        by_cases e : k = 0
        · rw [if_pos (show Int32.ofInt k ≤ 0 from by rw [zi_0, zi_le (by omega) (by omega) (by omega) (by omega)]; omega), if_neg (fun w => by rw [decide_eq_false_iff_not] at w; exact w.1 e), j84]
        · rw [if_neg (show ¬ Int32.ofInt k ≤ 0 from by rw [zi_0, zi_le (by omega) (by omega) (by omega) (by omega)]; omega)]
          by_cases e2 : b (q + k) = 0
          · rw [if_pos (show Int32.ofInt (b (q + k)) = 0 from by rw [e2]; rfl), if_pos ⟨decide_eq_false e, e2⟩, no]
          · rw [if_neg (show ¬ Int32.ofInt (b (q + k)) = 0 from by rw [zi_0, zi_eq (by omega) (by omega) (by omega) (by omega)]; exact e2), if_neg (fun w => e2 w.2), j84]
      by_cases c2 : k = nrI lg
      · rw [if_pos (by rw [c2])]
        by_cases c3 : nrM lg < b (q + k)
        · rw [if_pos (show Int32.ofInt (nrM lg) < Int32.ofInt (b (q + k)) from by rw [zi_lt (by omega) (by omega) (by omega) (by omega)]; exact c3), if_pos (Or.inr (Or.inr ⟨by omega, c3⟩)), no]
        · rw [if_neg (show ¬ Int32.ofInt (nrM lg) < Int32.ofInt (b (q + k)) from by rw [zi_lt (by omega) (by omega) (by omega) (by omega)]; exact c3), j69]
          by_cases c4 : decide (k = 0) = false ∧ b (q + k) = 0
          · rw [if_pos c4, if_pos (Or.inr (Or.inl c4))]
          · rw [if_neg c4, if_neg (show ¬ (b (q + k) < 0 ∨ (decide (k = 0) = false ∧ b (q + k) = 0) ∨ (r = 0 ∧ nrM lg < b (q + k))) from fun w => by rcases w with w | w | w; exact c1 w; exact c4 w; exact c3 w.2)]
      · rw [if_neg (show ¬ Int32.ofInt k = Int32.ofInt (nrI lg) from by rw [zi_eq (by omega) (by omega) (by omega) (by omega)]; omega), j69]
        by_cases c4 : decide (k = 0) = false ∧ b (q + k) = 0
        · rw [if_pos c4, if_pos (Or.inr (Or.inl c4))]
        · rw [if_neg c4, if_neg (show ¬ (b (q + k) < 0 ∨ (decide (k = 0) = false ∧ b (q + k) = 0) ∨ (r = 0 ∧ nrM lg < b (q + k))) from fun w => by rcases w with w | w | w; exact c1 w; exact c4 w; exact c2 (by omega))]
  intro r
  induction r with
  | zero =>
    intro k fuel z hr hk hf
    obtain ⟨fuel, rfl⟩ : ∃ g, fuel = g + 1 + 1 := ⟨fuel - 2, by omega⟩
    rw [st 0 k (fuel + 1) z hr hk]
    have e : nrE b (nrM lg) 0 (decide (k = 0)) (q + k) = if b (q + k) < 0 ∨ nrM lg < b (q + k) ∨ (decide (k = 0) = false ∧ b (q + k) = 0) then -1 - (q + k) else q + k + 1 := rfl
    rw [e]
    by_cases c1 : b (q + k) < 0 ∨ nrM lg < b (q + k) ∨ (decide (k = 0) = false ∧ b (q + k) = 0)
    · rw [if_pos c1, if_pos (by rcases c1 with w | w | w; exact Or.inl w; exact Or.inr (Or.inr ⟨rfl, w⟩); exact Or.inr (Or.inl w)), if_neg (by omega)]
    · rw [if_neg c1, if_neg (fun w => c1 (by rcases w with w | w | w; exact Or.inl w; exact Or.inr (Or.inr w); exact Or.inr (Or.inl w.2))), if_pos (show b (q + k) < 128 by omega), if_pos (by omega), Model_tnum_0]
      rfl
  | succ r ih =>
    intro k fuel z hr hk hf
    obtain ⟨fuel, rfl⟩ : ∃ g, fuel = g + 1 + 1 := ⟨fuel - 2, by omega⟩
    have bb := bSt_b (i := q + k) S.2.2.1 (by omega)
    rw [st (r + 1) k (fuel + 1) z hr hk]
    have e : nrE b (nrM lg) (r + 1) (decide (k = 0)) (q + k) = if b (q + k) < 0 ∨ (decide (k = 0) = false ∧ b (q + k) = 0) then -1 - (q + k) else if b (q + k) < 128 then q + k + 1 else nrE b (nrM lg) r false (q + k + 1) := rfl
    have ew : nrW b (r + 1) k (q + k) z = if b (q + k) < 128 then nrS b k (q + k) z else nrW b r (k + 1) (q + k + 1) (nrS b k (q + k) z) := rfl
    rw [e, ew]
    by_cases c1 : b (q + k) < 0 ∨ (decide (k = 0) = false ∧ b (q + k) = 0)
    · rw [if_pos c1, if_pos (by rcases c1 with w | w; exact Or.inl w; exact Or.inr (Or.inl w)), if_neg (by omega)]
    · rw [if_neg c1, if_neg (fun w => by rcases w with w | w | w; exact c1 (Or.inl w); exact c1 (Or.inr w); omega)]
      by_cases c2 : b (q + k) < 128
      · rw [if_pos c2, if_pos c2, if_pos c2, if_pos (by omega), Model_tnum_0]
      · have lt := bb.2.2.1 (by omega)
        have := ih (k + 1) (fuel + 1) (nrS b k (q + k) z) (by omega) (by omega) (by omega)
        rw [show decide (k + 1 = 0) = false from rfl, show q + ((k + 1 : Nat) : Int) = q + k + 1 by omega] at this
        rw [if_neg c2, if_neg c2, if_neg c2, this]
theorem Model_tnum_z {m N : Nat} {h : ax_Hp} {s : mS} {b : Int → Int} {lg : Bool} {q : Int} {f : Int32} (hf : f = 0 ↔ lg = false) (S : isS s N b) (q0 : 0 ≤ q) (q1 : q ≤ N) : ax_F (m + 2) 200 [ax_A (some 24), ax_I (Int32.ofInt q), ax_I f] (mH h s) = some (.inl (some (ax_I (Int32.ofInt (spNr b lg q)))), mH h (if 0 ≤ spNr b lg q then mL s (spNv b lg q).toInt else s)) := by
  have L := Model_tnum_l (m := m) (h := h) (lg := lg) S q0 (nrI lg) 0 ax_fuel 0 rfl (by omega) (by have := (nr_f lg).2.2.2.1; unfold ax_fuel; omega)
  rw [show q + ((0 : Nat) : Int) = q by omega] at L
  rw [Model_takeNumber_F]
  unfold Model_takeNumber_b Model_takeNumber_jn10 Model_takeNumber_jn21
  cases lg with
  | true =>
    have h0 : ¬ f = 0 := fun z => absurd (hf.mp z) (by decide)
    rw [if_neg h0, if_neg h0]
    exact L
  | false =>
    have h0 : f = 0 := hf.mpr rfl
    rw [if_pos h0, if_pos h0]
    exact L
/-- the number behind a leaf -/
def spLv (c b : Int → Int) (t q : Int) : Int := if c t = 66 then b q else if c t = 69 ∨ c t = 83 then b q / 2 else (spNv b (decide (c t = 76)) q).toInt
theorem Model_tplain_z {m N : Nat} {h : ax_Hp} {s : mS} {c b : Int → Int} {n t q : Int} (S : isS s N b) (L : lfN s.2.2.1 c n t) (hc : isPl (c t) ∨ c t = 69) (q0 : 0 ≤ q) (q1 : q ≤ N) : ∃ v, ax_F (m + 4) 198 [ax_A (some 24), ax_I (Int32.ofInt n), ax_I (Int32.ofInt q)] (mH h s) = some (.inl (some (ax_I (Int32.ofInt (spSl c b t q)))), mH h (mL s v)) ∧ (0 ≤ spSl c b t q → c t ≠ 78 → v = spLv c b t q) := by
  obtain ⟨l1, l2, l3, l4, l5⟩ := L
  have n64 := S.2.1
  have bb := bSt_b S.2.2.1 q0
  have ek : (Int32.ofInt (c t)).toInt = c t := zi_toInt (by rcases hc with (h | h | h | h | h) | h <;> omega) (by rcases hc with (h | h | h | h | h) | h <;> omega)
  have mLe : ∀ (p : Prop) [Decidable p] (a : Int), (if p then mL s a else s) = mL s (if p then a else s.2.1) := fun p _ a => by split <;> rfl
  rw [Model_takePlain_F]
  unfold Model_takePlain_b Model_takePlain_jn78 Model_takePlain_jn124 spSl spLv
  rw [mgr_17, Option.bind_some, mld_17 _ _ _ l1 l2, Option.bind_some, l4]
  rcases hc with (h | h | h | h | h) | h
  · rw [h] at ek ⊢
    simp only [ek, Int.reduceEq, ↓reduceIte]
    exact ⟨s.2.1, rfl, fun _ z => absurd rfl z⟩
  · rw [h] at ek ⊢
    simp only [ek, Int.reduceEq, ↓reduceIte]
    refine ⟨b q, ?_, fun _ _ => rfl⟩
    rw [mS_on, pl_ci (Model_byteAt_z S q0 (by omega)), zl_of32 (by omega) (by omega), mpf_37, Option.bind_some, mgl_37, Option.bind_some, Option.bind_some, show (mL s (b q)).2.1 = b q from rfl, show (-1 : Int32) = Int32.ofInt (-1) from rfl, show (1 : Int32) = Int32.ofInt 1 from rfl, zi_add, zi_sub]
    have z0 : (lg_cmp (Int64.ofInt (b q)) 0 = 0) ↔ b q = 0 := by
      rw [lg_eq, show (0 : Int64) = Int64.ofInt 0 from rfl, ← Int64.toInt_inj, zl_toInt (by omega) (by omega), zl_toInt (by omega) (by omega)]
    have z1 : (lg_cmp (Int64.ofInt (b q)) 1 = 0) ↔ b q = 1 := by
      rw [lg_eq, show (1 : Int64) = Int64.ofInt 1 from rfl, ← Int64.toInt_inj, zl_toInt (by omega) (by omega), zl_toInt (by omega) (by omega)]
    by_cases c1 : b q = 0
    · rw [if_pos (z0.mpr c1), if_pos (Or.inl c1)]; rfl
    · rw [if_neg (fun w => c1 (z0.mp w))]
      by_cases c2 : b q = 1
      · rw [if_pos (z1.mpr c2), if_pos (Or.inr c2)]; rfl
      · rw [if_neg (fun w => c2 (z1.mp w)), if_neg (by omega)]; rfl
  · rw [h] at ek ⊢
    simp only [ek, Int.reduceEq, ↓reduceIte]
    have tn := Model_tnum_z (m := m + 1) (h := ‹ax_Hp›) (lg := false) (f := 0) ⟨fun _ => rfl, fun _ => rfl⟩ S q0 q1
    rw [mLe] at tn
    refine ⟨(if 0 ≤ spNr b false q then (spNv b false q).toInt else s.2.1), ?_, fun z _ => ?_⟩
    · rw [Option.bind_some, mld_17 _ _ _ l1 l2, Option.bind_some, l4, h, if_neg (show ¬ Int32.ofInt 73 = 76 from by decide), mS_on, pl_ci tn]
      rfl
    · rw [if_pos (show 0 ≤ spNr b false q from z)]; rfl
  · rw [h] at ek ⊢
    simp only [ek, Int.reduceEq, ↓reduceIte]
    have tn := Model_tnum_z (m := m + 1) (h := ‹ax_Hp›) (lg := true) (f := 1) ⟨fun z => absurd z (by decide), fun z => absurd z (by decide)⟩ S q0 q1
    rw [mLe] at tn
    refine ⟨(if 0 ≤ spNr b true q then (spNv b true q).toInt else s.2.1), ?_, fun z _ => ?_⟩
    · rw [Option.bind_some, mld_17 _ _ _ l1 l2, Option.bind_some, l4, h, if_pos (show Int32.ofInt 76 = 76 from rfl), mS_on, pl_ci tn]
      rfl
    · rw [if_pos (show 0 ≤ spNr b true q from z)]; rfl
  · rw [h] at ek ⊢
    simp only [ek, Int.reduceEq, ↓reduceIte]
    have tn := Model_tstr_z (m := m) (h := ‹ax_Hp›) S q0 q1
    rw [mLe] at tn
    refine ⟨(if hfO b 13 q then b q / 2 else s.2.1), ?_, fun z _ => ?_⟩
    · rw [mS_on, pl_ci tn]
      rfl
    · have : hfO b 13 q := Decidable.byContradiction fun w => by unfold spSt at z; rw [if_neg w] at z; omega
      rw [if_pos this, if_pos (Or.inr trivial)]
  · obtain ⟨e1, e2, e3, e4⟩ := l5 h
    have k8 := (spSy_k (c := c) (p := t + 2) 8 0).2.1
    rw [h] at ek ⊢
    simp only [ek, Int.reduceEq, ↓reduceIte]
    have tn := Model_half_z (m := m + 1) (h := ‹ax_Hp›) (mm := spSy c (t + 2) 8 0) S q0 q1 (by omega) (by omega)
    rw [mLe] at tn
    refine ⟨(if hfO b (spSy c (t + 2) 8 0) q then b q / 2 else s.2.1), ?_, fun z _ => ?_⟩
    · rw [mgr_20, Option.bind_some, mld_20 _ _ _ l1 l2, Option.bind_some, e2, mS_on, pl_ci tn]
      rfl
    · have : hfO b (spSy c (t + 2) 8 0) q := Decidable.byContradiction fun w => by unfold spHf at z; rw [if_neg w] at z; omega
      rw [if_pos this, if_pos (Or.inl trivial)]
