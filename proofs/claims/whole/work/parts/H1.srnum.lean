theorem nrV_x (z : Int64) : shr1 z ^^^ (-(z &&& 1)) = nrV z := by
  unfold nrV
  rcases and1 z with h | h
  · rw [if_pos h, h]
    refine Int64.toBitVec_inj.mp ?_
    show (shr1 z).toBitVec ^^^ (-(0 : Int64)).toBitVec = (shr1 z).toBitVec
    rw [show (-(0 : Int64)).toBitVec = 0#64 from rfl, BitVec.xor_zero]
  · rw [if_neg (by rw [h]; decide), h]
    refine Int64.toBitVec_inj.mp ?_
    show (shr1 z).toBitVec ^^^ (-(1 : Int64)).toBitVec = -(shr1 z).toBitVec - 1#64
    rw [show (-(1 : Int64)).toBitVec = BitVec.allOnes 64 from rfl, BitVec.xor_allOnes, BitVec.neg_eq_not_add, BitVec.add_sub_cancel]
theorem by_shr : ∀ k : Nat, k < 128 → ((Int32.ofInt k >>> (Int32.ofInt 4 &&& 31) = 0) ↔ k ≤ 15) ∧ ((Int32.ofInt k >>> (Int32.ofInt 1 &&& 31) = 0) ↔ k ≤ 1) := by decide +kernel
def nrB (lg : Bool) : Int := if lg then 64 else 32
theorem nr_f (lg : Bool) : (∀ k : Nat, k ≤ nrI lg → 7 * (k : Int) < nrB lg) ∧ (∀ k : Nat, k ≤ nrI lg → (7 * (k : Int) + 7 ≤ nrB lg ↔ k < nrI lg)) ∧ nrB lg ≤ 64 ∧ nrI lg ≤ 9 ∧ 0 < nrI lg ∧ nrM lg ≤ 15 ∧ 1 ≤ nrM lg ∧ ∀ k : Nat, k < 128 → ((Int32.ofInt k >>> (Int32.ofInt (nrB lg - 7 * (nrI lg : Int)) &&& 31) = 0) ↔ (k : Int) ≤ nrM lg) := by
  cases lg with
  | true =>
    refine ⟨fun k hk => ?_, fun k hk => ?_, by decide, by decide, by decide, by decide, by decide, fun k hk => ?_⟩
    · have : k ≤ 9 := hk
      show 7 * (k : Int) < 64
      omega
    · have : k ≤ 9 := hk
      show 7 * (k : Int) + 7 ≤ 64 ↔ k < 9
      omega
    · refine (by_shr k hk).2.trans ?_
      show k ≤ 1 ↔ (k : Int) ≤ 1
      omega
  | false =>
    refine ⟨fun k hk => ?_, fun k hk => ?_, by decide, by decide, by decide, by decide, by decide, fun k hk => ?_⟩
    · have : k ≤ 4 := hk
      show 7 * (k : Int) < 32
      omega
    · have : k ≤ 4 := hk
      show 7 * (k : Int) + 7 ≤ 32 ↔ k < 4
      omega
    · refine (by_shr k hk).1.trans ?_
      show k ≤ 15 ↔ (k : Int) ≤ 15
      omega
theorem Sr_num1 {m : Nat} {g : ax_Hp} {cu sr sc N : Nat} {b : Int → Int} {lg : Bool} {r k : Nat} {q : Int} {z x : Int64} {fuel : Nat} (X : stX g cu sr sc N b) (hr : r + k = nrI lg) (q0 : 0 ≤ q) (q1 : q ≤ 200) : StreamReader_readNumber_lp5 (ax_F (m + 1)) (fuel + 1) (some sr) (Int32.ofInt (nrB lg)) z (Int32.ofInt (7 * (k : Int))) (sH g cu sr sc N q x) = if b q < 0 ∨ (decide (k = 0) = false ∧ b q = 0) ∨ (r = 0 ∧ nrM lg < b q) then some (.inl (some (ax_I (Int32.ofInt 0))), sH g cu sr sc N q x) else if b q < 128 then some (.inl (some (ax_I (Int32.ofInt 1))), sH g cu sr sc N (q + 1) (nrV (nrS b k q z))) else StreamReader_readNumber_lp5 (ax_F (m + 1)) fuel (some sr) (Int32.ofInt (nrB lg)) (nrS b k q z) (Int32.ofInt (7 * ((k + 1 : Nat) : Int))) (sH g cu sr sc N (q + 1) x) := by
  have bb := bSt_b X.2.2.2.2.2.1 q0
  obtain ⟨f1, f2, f3, f4, f5, f6, f7, f8⟩ := nr_f lg
  have f1 := f1 k (by omega)
  have f2 := f2 k (by omega)
  have z0 : ax_rz 0 (sH g cu sr sc N q x) = some (.inl (some (ax_I (Int32.ofInt 0))), sH g cu sr sc N q x) := za_rz (v := 0) (Or.inl rfl)
  have hstep : StreamReader_readNumber_lp5 (ax_F (m + 1)) (fuel + 1) = StreamReader_readNumber_bd5 (ax_F (m + 1)) (StreamReader_readNumber_lp5 (ax_F (m + 1)) fuel) := rfl
  rw [hstep]
  unfold StreamReader_readNumber_bd5
  rw [if_neg (show ¬ Int32.ofInt (nrB lg) ≤ Int32.ofInt (7 * (k : Int)) from by rw [zi_le (by omega) (by omega) (by omega) (by omega)]; omega), sH_gr0, Option.bind_some, sH_cuon X.1, pl_ci (St_end X q0 (by omega))]
  by_cases c1 : b q < 0
  · rw [if_neg (show ¬ q < N from fun w => by have := bb.2.2.2 w; omega), if_neg (show ¬ Int32.ofInt 1 = 0 from by decide), if_pos (Or.inl c1), z0]
  · have lt := bb.2.2.1 (by omega)
    obtain ⟨-, d2⟩ := byd (a := b q) (by omega) bb.2.1
    have fg := f8 (b q % 128).toNat (by omega)
    rw [show (((b q % 128).toNat : Nat) : Int) = b q % 128 by omega] at fg
    rw [if_pos lt, if_pos (show Int32.ofInt 0 = 0 from rfl), sH_gr0, Option.bind_some, sH_cuon X.1, pl_ci (St_peek X q0 (by omega)), sH_gr0, Option.bind_some, sH_cuon X.1, pl_ci (St_peek X q0 (by omega))]
    have sh : Int32.ofInt (7 * (k : Int)) + 7 = Int32.ofInt (7 * ((k + 1 : Nat) : Int)) := by rw [show (7 : Int32) = Int32.ofInt 7 from rfl, zi_add, show 7 * (k : Int) + 7 = 7 * ((k + 1 : Nat) : Int) by omega]
    have go : ∀ (lst : Int32), StreamReader_readNumber_jn106 (ax_F (m + 1)) (StreamReader_readNumber_lp5 (ax_F (m + 1)) fuel) (some sr) (Int32.ofInt (nrB lg)) z (Int32.ofInt (7 * (k : Int))) (Int32.ofInt (b q) &&& 127) lst 0 0 (sH g cu sr sc N q x) = if lst = 0 then StreamReader_readNumber_lp5 (ax_F (m + 1)) fuel (some sr) (Int32.ofInt (nrB lg)) (nrS b k q z) (Int32.ofInt (7 * ((k + 1 : Nat) : Int))) (sH g cu sr sc N (q + 1) x) else some (.inl (some (ax_I (Int32.ofInt 1))), sH g cu sr sc N (q + 1) (nrV (nrS b k q z))) := fun lst => by
      unfold StreamReader_readNumber_jn106
      rw [if_pos rfl, if_pos rfl, sH_gr0, Option.bind_some, sH_cuon X.1, pl_cv (St_step X q0 (by omega))]
      by_cases e : lst = 0
      · rw [if_pos e, if_pos e, sh]
        rfl
      · rw [if_neg e, if_neg e, sH_pf2, Option.bind_some, show ∀ w : Int64, ((w.toUInt64 >>> ((1 : Int32).toInt64.toUInt64 &&& Int64.toUInt64 63)).toInt64) ^^^ (-(w &&& 1)) = nrV w from fun w => nrV_x w]
        exact za_rz (v := 1) (Or.inr rfl)
    have no1 : ∀ (lst s0 : Int32), StreamReader_readNumber_jn106 (ax_F (m + 1)) (StreamReader_readNumber_lp5 (ax_F (m + 1)) fuel) (some sr) (Int32.ofInt (nrB lg)) z (Int32.ofInt (7 * (k : Int))) (Int32.ofInt (b q) &&& 127) lst 1 s0 (sH g cu sr sc N q x) = some (.inl (some (ax_I (Int32.ofInt 0))), sH g cu sr sc N q x) := fun lst s0 => by
      unfold StreamReader_readNumber_jn106
      rw [if_neg (by decide), z0]
    have no2 : ∀ (lst : Int32), StreamReader_readNumber_jn106 (ax_F (m + 1)) (StreamReader_readNumber_lp5 (ax_F (m + 1)) fuel) (some sr) (Int32.ofInt (nrB lg)) z (Int32.ofInt (7 * (k : Int))) (Int32.ofInt (b q) &&& 127) lst 0 1 (sH g cu sr sc N q x) = some (.inl (some (ax_I (Int32.ofInt 0))), sH g cu sr sc N q x) := fun lst => by
      unfold StreamReader_readNumber_jn106
      rw [if_pos rfl, if_neg (by decide), z0]
    -- is it too large?
    have j75 : ∀ (lst s0 : Int32), StreamReader_readNumber_jn75 (ax_F (m + 1)) (StreamReader_readNumber_lp5 (ax_F (m + 1)) fuel) (some sr) (Int32.ofInt (nrB lg)) z (Int32.ofInt (7 * (k : Int))) (Int32.ofInt (b q) &&& 127) lst s0 (sH g cu sr sc N q x) = if k < nrI lg ∨ (¬ lst = 0 ∧ b q % 128 ≤ nrM lg) then StreamReader_readNumber_jn106 (ax_F (m + 1)) (StreamReader_readNumber_lp5 (ax_F (m + 1)) fuel) (some sr) (Int32.ofInt (nrB lg)) z (Int32.ofInt (7 * (k : Int))) (Int32.ofInt (b q) &&& 127) lst s0 0 (sH g cu sr sc N q x) else StreamReader_readNumber_jn106 (ax_F (m + 1)) (StreamReader_readNumber_lp5 (ax_F (m + 1)) fuel) (some sr) (Int32.ofInt (nrB lg)) z (Int32.ofInt (7 * (k : Int))) (Int32.ofInt (b q) &&& 127) lst s0 1 (sH g cu sr sc N q x) := fun lst s0 => by
      unfold StreamReader_readNumber_jn75 StreamReader_readNumber_jn105 StreamReader_readNumber_jn101
      rw [show Int32.ofInt (7 * (k : Int)) + 7 = Int32.ofInt (7 * (k : Int) + 7) from by rw [show (7 : Int32) = Int32.ofInt 7 from rfl, zi_add]]
      by_cases e1 : k < nrI lg
      · rw [if_pos (show Int32.ofInt (7 * (k : Int) + 7) ≤ Int32.ofInt (nrB lg) from by rw [zi_le (by omega) (by omega) (by omega) (by omega)]; exact f2.mpr e1), if_pos (Or.inl e1)]
      · have ek : k = nrI lg := by omega
        rw [if_neg (show ¬ Int32.ofInt (7 * (k : Int) + 7) ≤ Int32.ofInt (nrB lg) from by rw [zi_le (by omega) (by omega) (by omega) (by omega)]; exact fun w => e1 (f2.mp w))]
        by_cases e2 : lst = 0
        · rw [if_pos e2, if_neg (fun w => w.elim e1 (fun y => y.1 e2))]
        · rw [if_neg e2, zi_sub, d2]
          by_cases e3 : b q % 128 ≤ nrM lg
          · rw [if_pos (by rw [ek]; exact fg.mpr e3), if_pos (Or.inr ⟨e2, e3⟩)]
          · rw [if_neg (fun w => e3 (fg.mp (by rw [ek] at w; exact w))), if_neg (fun w => w.elim e1 (fun y => e3 y.2))]
    unfold StreamReader_readNumber_jn53 StreamReader_readNumber_jn74
    by_cases c2 : b q < 128
    · have em : b q % 128 = b q := by omega
      rw [if_neg (show ¬ (128 : Int32) ≤ Int32.ofInt (b q) from by rw [show (128 : Int32) = Int32.ofInt 128 from rfl, zi_le (by omega) (by omega) (by omega) (by omega)]; omega), if_neg (show ¬ (1 : Int32) = 0 from by decide), j75, j75]
      have fz : ((Int32.ofInt (b q) &&& 127) = 0) ↔ b q = 0 := by rw [d2, em, zi_0, zi_eq (by omega) (by omega) (by omega) (by omega)]
      by_cases c3 : b q = 0
      · rw [if_pos (fz.mpr c3)]
        by_cases c4 : k = 0
        · rw [if_pos (show Int32.ofInt (7 * (k : Int)) ≤ 0 from by rw [zi_0, zi_le (by omega) (by omega) (by omega) (by omega)]; omega), if_pos (Or.inl (by omega)), go, if_neg (by decide), if_neg (show ¬ (b q < 0 ∨ (decide (k = 0) = false ∧ b q = 0) ∨ (r = 0 ∧ nrM lg < b q)) from fun w => by
            rcases w with w | w | w
            · omega
            · rw [decide_eq_false_iff_not] at w; exact w.1 c4
            · omega), if_pos c2]
        · rw [if_neg (show ¬ Int32.ofInt (7 * (k : Int)) ≤ 0 from by rw [zi_0, zi_le (by omega) (by omega) (by omega) (by omega)]; omega), if_pos (show b q < 0 ∨ (decide (k = 0) = false ∧ b q = 0) ∨ (r = 0 ∧ nrM lg < b q) from Or.inr (Or.inl ⟨decide_eq_false c4, c3⟩)), no1, no1]
          split <;> rfl
      · rw [if_neg (fun w => c3 (fz.mp w)), em]
        by_cases c4 : r = 0 ∧ nrM lg < b q
        · rw [if_neg (fun w => by rcases w with w | w <;> omega), no2, if_pos (Or.inr (Or.inr c4))]
        · rw [if_pos (show k < nrI lg ∨ (¬ (1 : Int32) = 0 ∧ b q ≤ nrM lg) from by
            by_cases e : k < nrI lg
            · exact Or.inl e
            · exact Or.inr ⟨by decide, by omega⟩), go, if_neg (by decide), if_neg (show ¬ (b q < 0 ∨ (decide (k = 0) = false ∧ b q = 0) ∨ (r = 0 ∧ nrM lg < b q)) from fun w => by
            rcases w with w | w | w
            · omega
            · exact c3 w.2
            · exact c4 w), if_pos c2]
    · rw [if_pos (show (128 : Int32) ≤ Int32.ofInt (b q) from by rw [show (128 : Int32) = Int32.ofInt 128 from rfl, zi_le (by omega) (by omega) (by omega) (by omega)]; omega), if_pos rfl, j75]
      by_cases c4 : r = 0
      · rw [if_neg (fun w => by rcases w with w | w; omega; exact w.1 rfl), no2, if_pos (Or.inr (Or.inr ⟨c4, by omega⟩))]
      · rw [if_pos (Or.inl (by omega)), go, if_pos rfl, if_neg (show ¬ (b q < 0 ∨ (decide (k = 0) = false ∧ b q = 0) ∨ (r = 0 ∧ nrM lg < b q)) from fun w => by
            rcases w with w | w | w
            · omega
            · omega
            · exact c4 w.1), if_neg c2]
