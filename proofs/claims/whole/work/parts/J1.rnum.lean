theorem lsF_st (f0 : Nat → Int) (L : List Int) (i : Nat) (x : Int) (hi : i < L.length) : (fun m => if m = i then x else lsF f0 L m) = lsF f0 (L.set i x) := by
  funext m
  unfold lsF
  rw [List.length_set, List.getD_eq_getElem?_getD, List.getD_eq_getElem?_getD, List.getElem?_set]
  by_cases c1 : m = i
  · rw [if_pos c1, if_pos (by omega), if_pos c1.symm, if_pos hi]
    rfl
  · rw [if_neg c1, if_neg (show ¬ i = m by omega)]
theorem Ro_setL {m dr di : Nat} {g : ax_Hp} {f0 : Nat → Int} {L : List Int} {i x : Int} (hne : dr ≠ di) (hL : L.length ≤ 400) (i0 : 0 ≤ i) (i1 : i < L.length) : ax_F (m + 1) 53 [ax_A (some dr), ax_I (Int32.ofInt i), ax_I (Int32.ofInt x)] (rH g dr di f0 L) = some (.inl none, rH g dr di f0 (L.set i.toNat x)) := by
  have e1 := rH_dr g dr di f0 L
  have e2 := rH_di g f0 L hne
  rw [Row_set_F]
  unfold Row_set_b
  rw [if_neg (show ¬ Int32.ofInt i < 0 from zi_n0 i0 (by omega)), pl_gi e1 (v := Int32.ofInt L.length) rfl, Option.bind_some, if_neg (show ¬ Int32.ofInt L.length ≤ Int32.ofInt i from by rw [zi_le (by omega) (by omega) (by omega) (by omega)]; omega), pl_gr e1 (v := some di) rfl, Option.bind_some, za_st e2 i0 (by omega) (by omega), Option.bind_some, lsF_st f0 L i.toNat x (by omega)]
  have e3 : ax_set (rH g dr di f0 L) di (.inr (1, arL 400 (lsF f0 (L.set i.toNat x)))) = rH g dr di f0 (L.set i.toNat x) := by
    refine Prod.ext rfl (Prod.ext rfl ?_)
    funext q
    by_cases c2 : q = di
    · rw [c2, pl_set, rH_di _ _ _ hne]
    · rw [pl_ne c2]
      by_cases c1 : q = dr
      · rw [c1, rH_dr, rH_dr, List.length_set]
      · rw [rH_o c1 c2, rH_o c1 c2]
  rw [e3]
  rfl
theorem fcN_b : ∀ (f m : Nat), fcN f m ≤ f
  | 0, _ => Nat.le_refl _
  | f + 1, m => by
    show (if m = 0 then 0 else fcN f (m / 10) + 1) ≤ f + 1
    have := fcN_b f (m / 10)
    split <;> omega
theorem fgN_b (n : Nat) : 1 ≤ fgN n ∧ fgN n ≤ 19 := by
  have := fcN_b 18 (n / 10)
  unfold fgN
  omega
theorem zl_nd {m : Nat} (hm : m ≤ 9223372036854775808) : Int64.ofInt (-(m : Int)) / 10 = Int64.ofInt (-((m / 10 : Nat) : Int)) := by
  rw [zl_div10 (by omega) (by omega), Int.neg_tdiv, Int.tdiv_eq_ediv_of_nonneg (by omega)]
  rfl
theorem zl_n0 {m : Nat} (hm : m ≤ 9223372036854775808) : (lg_cmp (Int64.ofInt (-(m : Int))) 0 = 0) ↔ m = 0 := by
  unfold lg_cmp
  have t : (Int64.ofInt (-(m : Int))).toInt = -(m : Int) := zl_toInt (by omega) (by omega)
  by_cases c : m = 0
  · subst c
    exact ⟨fun _ => rfl, fun _ => rfl⟩
  · rw [if_neg (show ¬ Int64.ofInt (-(m : Int)) > 0 from fun z => by have := Int64.lt_iff_toInt_lt.mp z; rw [t, show (0 : Int64).toInt = 0 from rfl] at this; omega), if_neg (show ¬ Int64.ofInt (-(m : Int)) = 0 from fun z => by have := congrArg Int64.toInt z; rw [t, show (0 : Int64).toInt = 0 from rfl] at this; omega)]
    exact ⟨fun h => absurd h (by decide), fun h => absurd h c⟩
theorem Rv_cfL {m : Nat} {h : ax_Hp} : ∀ (f n j fuel : Nat), n < 10 ^ f → n ≤ 9223372036854775808 → j + f ≤ 19 → f < fuel → Resolver_countFigures_lp8 (ax_F m) fuel (Int32.ofInt j) (Int64.ofInt (-(n : Int))) h = some (.inl (some (ax_I (Int32.ofInt ((j + fcN f n : Nat) : Int)))), h)
  | 0, n, j, fuel, hn, h9, hj, hf => by
    obtain ⟨fuel, rfl⟩ : ∃ g, fuel = g + 1 := ⟨fuel - 1, by omega⟩
    have hstep : Resolver_countFigures_lp8 (ax_F m) (fuel + 1) = Resolver_countFigures_bd8 (ax_F m) (Resolver_countFigures_lp8 (ax_F m) fuel) := rfl
    rw [hstep]
    unfold Resolver_countFigures_bd8
    rw [if_pos ((zl_n0 h9).mpr (by rw [Nat.pow_zero] at hn; omega))]
    rfl
  | f + 1, n, j, fuel, hn, h9, hj, hf => by
    obtain ⟨fuel, rfl⟩ : ∃ g, fuel = g + 1 := ⟨fuel - 1, by omega⟩
    have hstep : Resolver_countFigures_lp8 (ax_F m) (fuel + 1) = Resolver_countFigures_bd8 (ax_F m) (Resolver_countFigures_lp8 (ax_F m) fuel) := rfl
    have e : fcN (f + 1) n = if n = 0 then 0 else fcN f (n / 10) + 1 := rfl
    rw [hstep, e]
    unfold Resolver_countFigures_bd8
    by_cases c : n = 0
    · rw [if_pos ((zl_n0 h9).mpr c), if_pos c]
      rfl
    · rw [if_neg (fun z => c ((zl_n0 h9).mp z)), if_neg c, if_neg (show ¬ (20 : Int32) ≤ Int32.ofInt j from by rw [show (20 : Int32) = Int32.ofInt 20 from rfl, zi_le (by omega) (by omega) (by omega) (by omega)]; omega), ax_nzl, if_neg (by decide), zl_nd h9, show (1 : Int32) = Int32.ofInt 1 from rfl, zi_add, show (j : Int) + 1 = ((j + 1 : Nat) : Int) by omega, Rv_cfL f (n / 10) (j + 1) fuel (by rw [Nat.pow_succ] at hn; omega) (by omega) (by omega) (by omega), show j + 1 + fcN f (n / 10) = j + (fcN f (n / 10) + 1) by omega]
theorem Rv_cf {m n : Nat} {h : ax_Hp} (hn : n ≤ 9223372036854775808) : ax_F (m + 1) 131 [ax_L (Int64.ofInt (-(n : Int)))] h = some (.inl (some (ax_I (Int32.ofInt ((fgN n : Nat) : Int)))), h) := by
  rw [Resolver_countFigures_F]
  unfold Resolver_countFigures_b
  rw [ax_nzl, if_neg (by decide), zl_nd hn]
  exact Rv_cfL 18 (n / 10) 1 ax_fuel (by omega) (by omega) (by omega) (by unfold ax_fuel; omega)
/-- the last figure -/
theorem zl_dg {n : Nat} (hn : n ≤ 9223372036854775808) : (48 : Int32) - ((Int64.ofInt (-(n : Int)) - Int64.ofInt (-(n : Int)) / 10 * 10).toInt32) = Int32.ofInt (48 + ((n % 10 : Nat) : Int)) := by
  rw [zl_nd hn, show (10 : Int64) = Int64.ofInt 10 from rfl, zl_mul, zl_sub, show -(n : Int) - -((n / 10 : Nat) : Int) * 10 = -((n % 10 : Nat) : Int) by omega]
  have : ∀ k : Nat, k < 10 → (48 : Int32) - (Int64.ofInt (-(k : Int))).toInt32 = Int32.ofInt (48 + (k : Int)) := by decide
  exact this (n % 10) (by omega)
section RNX
variable {g : ax_Hp} {rv cu sr sw sd dr di N lw lr : Nat} {w r b : Int → Int} {we wn wu re rn ru f0 : Nat → Int} {q : Int} {x : Int64} {L : List Int} {fs : Nat → Int} {a0 a1 : Int}
theorem Rv_set {m : Nat} {i y : Int} (X : rvX g rv cu sr sw sd dr di N lw lr w r b we wn wu re rn ru) (hL : L.length ≤ 400) (i0 : 0 ≤ i) (i1 : i < L.length) : ax_F (m + 1) 53 [ax_A (some dr), ax_I (Int32.ofInt i), ax_I (Int32.ofInt y)] (dH g cu sr sw N dr di f0 q x L fs) = some (.inl none, dH g cu sr sw N dr di f0 q x (L.set i.toNat y) fs) := Ro_setL X.2.2.2.2.2.2.1 hL i0 i1
theorem Rv_n2 {m n k : Nat} (X : rvX g rv cu sr sw sd dr di N lw lr w r b we wn wu re rn ru) (hn : n ≤ 9223372036854775808) (hk : (L.length : Int) + k ≤ 400) : ∀ (i j fuel : Nat), i + j = k → i < fuel → Resolver_addNumber_lp84 (ax_F (m + 1)) fuel (some rv) (Int64.ofInt (-((n / 10 ^ j : Nat) : Int))) (Int32.ofInt L.length) (Int32.ofInt ((i : Int) - 1)) (dH g cu sr sw N dr di f0 q x (L ++ (List.replicate i 48 ++ dgN n j)) fs) = some (.inl (some (ax_I (Int32.ofInt 1))), dH g cu sr sw N dr di f0 q x (L ++ dgN n k) fs)
  | 0, j, fuel, hij, hf => by
    obtain ⟨fuel, rfl⟩ : ∃ g, fuel = g + 1 := ⟨fuel - 1, by omega⟩
    have hstep : Resolver_addNumber_lp84 (ax_F (m + 1)) (fuel + 1) = Resolver_addNumber_bd84 (ax_F (m + 1)) (Resolver_addNumber_lp84 (ax_F (m + 1)) fuel) := rfl
    rw [hstep]
    unfold Resolver_addNumber_bd84
    rw [if_pos (show Int32.ofInt (((0 : Nat) : Int) - 1) < 0 from by decide), show k = j by omega]
    exact za_rz (v := 1) (Or.inr rfl)
  | i + 1, j, fuel, hij, hf => by
    obtain ⟨fuel, rfl⟩ : ∃ g, fuel = g + 1 := ⟨fuel - 1, by omega⟩
    have hstep : Resolver_addNumber_lp84 (ax_F (m + 1)) (fuel + 1) = Resolver_addNumber_bd84 (ax_F (m + 1)) (Resolver_addNumber_lp84 (ax_F (m + 1)) fuel) := rfl
    have hj : n / 10 ^ j ≤ 9223372036854775808 := Nat.le_trans (Nat.div_le_self _ _) hn
    have dl : ∀ j, (dgN n j).length = j := fun j => by
      induction j with
      | zero => rfl
      | succ j ih => show (dgN n j).length + 1 = j + 1; rw [ih]
    have hl : (L ++ (List.replicate (i + 1) (48 : Int) ++ dgN n j)).length = L.length + (i + 1 + j) := by
      rw [List.length_append, List.length_append, List.length_replicate, dl]
    have hs : (L ++ (List.replicate (i + 1) (48 : Int) ++ dgN n j)).set (L.length + i) (48 + ((n / 10 ^ j % 10 : Nat) : Int)) = L ++ (List.replicate i 48 ++ dgN n (j + 1)) := by
      rw [List.set_append_right _ _ (by omega), show L.length + i - L.length = i by omega, List.replicate_succ', List.append_assoc, List.set_append_right _ _ (by rw [List.length_replicate]; omega), List.length_replicate, Nat.sub_self]
      rfl
    rw [hstep]
    unfold Resolver_addNumber_bd84
    rw [if_neg (show ¬ Int32.ofInt (((i + 1 : Nat) : Int) - 1) < 0 from zi_n0 (by omega) (by omega)), dH_4 X, Option.bind_some, ax_nzl, if_neg (by decide), dH_dron, zl_dg hj, zi_add, pl_cv (Rv_set X (by rw [hl]; omega) (by omega) (by rw [hl]; omega)), ax_nzl, if_neg (by decide), zl_nd hj, show ((L.length : Int) + (((i + 1 : Nat) : Int) - 1)).toNat = L.length + i by omega, hs, show (-1 : Int32) = Int32.ofInt (-1) from rfl, zi_add, show ((i + 1 : Nat) : Int) - 1 + -1 = (i : Int) - 1 by omega, Nat.div_div_eq_div_mul, ← Nat.pow_succ]
    exact Rv_n2 X hn hk i (j + 1) fuel (by omega) (by omega)
theorem Rv_n1 {m n k : Nat} {L0 : List Int} (X : rvX g rv cu sr sw sd dr di N lw lr w r b we wn wu re rn ru) (hn : n ≤ 9223372036854775808) (hk : k ≤ 19) : ∀ (f j fuel : Nat), f + j = k → L.length + j ≤ 400 → f < fuel → rsR g cu sr sw N dr di f0 (Resolver_addNumber_lp51 (ax_F (m + 1)) fuel (some rv) (Int64.ofInt (-(n : Int))) (Int32.ofInt L.length) (Int32.ofInt k) (Int32.ofInt j) (dH g cu sr sw N dr di f0 q x (L ++ List.replicate j 48) fs)) (some (dgN n k)) q L fs a0 a1 := by
  have dl : ∀ j, (dgN n j).length = j := fun j => by
    induction j with
    | zero => rfl
    | succ j ih => show (dgN n j).length + 1 = j + 1; rw [ih]
  intro f
  induction f with
  | zero =>
    intro j fuel hj hL hf
    obtain ⟨fuel, rfl⟩ : ∃ g, fuel = g + 1 := ⟨fuel - 1, by omega⟩
    have hstep : Resolver_addNumber_lp51 (ax_F (m + 1)) (fuel + 1) = Resolver_addNumber_bd51 (ax_F (m + 1)) (Resolver_addNumber_lp51 (ax_F (m + 1)) fuel) := rfl
    have h2 := Rv_n2 (m := m) (f0 := f0) (q := q) (x := x) (L := L) (fs := fs) (n := n) (k := k) X hn (by omega) k 0 ax_fuel (by omega) (by unfold ax_fuel; omega)
    rw [Nat.pow_zero, Nat.div_one, show dgN n 0 = [] from rfl, List.append_nil] at h2
    rw [hstep]
    unfold Resolver_addNumber_bd51
    rw [if_pos (show Int32.ofInt k ≤ Int32.ofInt j from by rw [zi_le (by omega) (by omega) (by omega) (by omega)]; omega), show (1 : Int32) = Int32.ofInt 1 from rfl, zi_sub, show j = k by omega, h2]
    exact ⟨q, x, L ++ dgN n k, fs, by rw [show okL (some (dgN n k)) L = true from decide_eq_true (by rw [dl]; omega)]; rfl, by rw [List.length_append, dl]; omega, fun _ => ⟨⟨_, rfl, rfl⟩, rfl⟩, fun _ _ => rfl⟩
  | succ f ih =>
    intro j fuel hj hL hf
    obtain ⟨fuel, rfl⟩ : ∃ g, fuel = g + 1 := ⟨fuel - 1, by omega⟩
    have hstep : Resolver_addNumber_lp51 (ax_F (m + 1)) (fuel + 1) = Resolver_addNumber_bd51 (ax_F (m + 1)) (Resolver_addNumber_lp51 (ax_F (m + 1)) fuel) := rfl
    have hl : (L ++ List.replicate j (48 : Int)).length = L.length + j := by rw [List.length_append, List.length_replicate]
    rw [hstep]
    unfold Resolver_addNumber_bd51
    rw [if_neg (show ¬ Int32.ofInt k ≤ Int32.ofInt j from by rw [zi_le (by omega) (by omega) (by omega) (by omega)]; omega), dH_4 X, Option.bind_some, dH_dron, show (48 : Int32) = Int32.ofInt 48 from rfl, pl_ci (Rv_add X (by omega)), hl]
    by_cases c : L.length + j < 400
    · rw [if_pos c, if_pos c, if_neg (show ¬ Int32.ofInt 1 = 0 from by decide), show (1 : Int32) = Int32.ofInt 1 from rfl, zi_add, List.append_assoc, ← List.replicate_succ', show (j : Int) + 1 = ((j + 1 : Nat) : Int) by omega]
      exact ih (j + 1) fuel (by omega) (by omega) (by omega)
    · rw [if_neg c, if_neg c, if_pos (show Int32.ofInt 0 = 0 from rfl)]
      exact rsR_f (decide_eq_false (by rw [dl]; omega)) (by omega) (fun _ _ => rfl)
/-- the class says a number -/
theorem Rv_dec {m : Nat} {v : Int64} (X : rvX g rv cu sr sw sd dr di N lw lr w r b we wn wu re rn ru) (hL : L.length ≤ 400) : rsR g cu sr sw N dr di f0 (ax_F (m + 2) 130 [ax_A (some rv), ax_L v] (dH g cu sr sw N dr di f0 q x L fs)) (some (decL v)) q L fs a0 a1 := by
  have v0 : -9223372036854775808 ≤ v.toInt := Int64.le_toInt v
  have v1 : v.toInt < 9223372036854775808 := Int64.toInt_lt v
  have fb := fgN_b v.toInt.natAbs
  have ev : v = Int64.ofInt v.toInt := (Int64.ofInt_toInt v).symm
  have cg : (0 ≤ lg_cmp v 0) ↔ 0 ≤ v.toInt := by
    rw [zl_cmp_ge, Int64.le_iff_toInt_le]
    exact Iff.rfl
  rw [Resolver_addNumber_F]
  unfold Resolver_addNumber_b decL
  by_cases c : 0 ≤ v.toInt
  · rw [if_pos (cg.mpr c), if_pos (cg.mpr c), dH_4 X, Option.bind_some, dH_dron, pl_ci (show ax_F (m + 1) 51 [ax_A (some dr)] (dH g cu sr sw N dr di f0 q x L fs) = _ from Ro_sizeL), if_neg (by omega), List.nil_append]
    have en : -v = Int64.ofInt (-((v.toInt.natAbs : Nat) : Int)) := by
      rw [show ((v.toInt.natAbs : Nat) : Int) = v.toInt by omega, ← zl_neg, ← ev]
    rw [en, pl_ci (Rv_cf (by omega))]
    have := Rv_n1 (m := m) (f0 := f0) (q := q) (x := x) (L := L) (L0 := L) (fs := fs) (a0 := a0) (a1 := a1) (n := v.toInt.natAbs) (k := fgN v.toInt.natAbs) X (by omega) fb.2 (fgN v.toInt.natAbs) 0 ax_fuel (by omega) (by omega) (by unfold ax_fuel; omega)
    rw [show List.replicate 0 (48 : Int) = [] from rfl, List.append_nil] at this
    exact this
  · rw [if_neg (fun z => c (cg.mp z)), dH_4 X, Option.bind_some, dH_dron, if_pos (show v.toInt < 0 by omega)]
    refine rsR_s (o1 := some [45]) (o2 := some (dgN v.toInt.natAbs (fgN v.toInt.natAbs))) (e1 := q) (rsR_a (m := m) (y := 45) X hL) (fun x' k fs' hk hL' hf' => ?_)
    rw [if_neg (fun z => c (cg.mp z)), dH_4 X, Option.bind_some, dH_dron, pl_ci (show ax_F (m + 1) 51 [ax_A (some dr)] (dH g cu sr sw N dr di f0 q x' (L ++ k) fs') = _ from Ro_sizeL)]
    have en : v = Int64.ofInt (-((v.toInt.natAbs : Nat) : Int)) := by
      rw [show -((v.toInt.natAbs : Nat) : Int) = v.toInt by omega, ← ev]
    have := Rv_n1 (m := m) (f0 := f0) (q := q) (x := x') (L := L ++ k) (L0 := L) (fs := fs') (a0 := a0) (a1 := a1) (n := v.toInt.natAbs) (k := fgN v.toInt.natAbs) X (by omega) fb.2 (fgN v.toInt.natAbs) 0 ax_fuel (by omega) (by omega) (by unfold ax_fuel; omega)
    rw [show List.replicate 0 (48 : Int) = [] from rfl, List.append_nil, ← en] at this
    have e131 : ∀ h : ax_Hp, ax_F (m + 1) 131 [ax_L v] h = some (.inl (some (ax_I (Int32.ofInt ((fgN v.toInt.natAbs : Nat) : Int)))), h) := fun h => by
      have z := Rv_cf (m := m) (h := h) (n := v.toInt.natAbs) (by omega)
      rw [← en] at z
      exact z
    rw [pl_ci (e131 _)]
    exact this
end RNX
