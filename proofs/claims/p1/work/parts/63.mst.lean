/-- the reference's store: whole numbers by field; amount; arrays by field and place; fit -/
abbrev mS : Type := (Nat → Int) × Int × (Nat → Nat → Int) × (Nat → Int64)
def arL (n : Nat) (f : Nat → Int) : List ax_T := (List.range n).map fun i => ax_I (Int32.ofInt (f i))
def arW (n : Nat) (f : Nat → Int64) : List ax_T := (List.range n).map fun i => ax_L (f i)
def mF (s : mS) : List ax_T := [ax_I (Int32.ofInt (s.1 0)), ax_I (Int32.ofInt (s.1 1)), ax_A (some 25), ax_I (Int32.ofInt (s.1 3)), ax_A (some 26), ax_I (Int32.ofInt (s.1 5)), ax_A (some 27), ax_I (Int32.ofInt (s.1 7)), ax_A (some 28), ax_I (Int32.ofInt (s.1 9)), ax_A (some 29), ax_A (some 30), ax_A (some 31), ax_A (some 32), ax_A (some 33), ax_A (some 34), ax_A (some 35), ax_A (some 36), ax_A (some 37), ax_A (some 38), ax_A (some 39), ax_A (some 40), ax_A (some 41), ax_A (some 42), ax_A (some 43), ax_A (some 44), ax_I (Int32.ofInt (s.1 26)), ax_A (some 45), ax_A (some 46), ax_I (Int32.ofInt (s.1 29)), ax_I (Int32.ofInt (s.1 30)), ax_I (Int32.ofInt (s.1 31)), ax_A (some 47), ax_A (some 48), ax_A (some 49), ax_A (some 50), ax_A (some 51), ax_L (Int64.ofInt s.2.1), ax_I (Int32.ofInt (s.1 38)), ax_I (Int32.ofInt (s.1 39)), ax_I (Int32.ofInt (s.1 40)), ax_A (some 52), ax_A (some 53), ax_A (some 54), ax_A (some 55), ax_A (some 56), ax_A (some 57), ax_A (some 58), ax_I (Int32.ofInt (s.1 48)), ax_I (Int32.ofInt (s.1 49))]
def mA (s : mS) (a : Nat) : Option ax_Ob := match a with
  | 25 => some (.inr (3, arL 160 (s.2.2.1 2)))
  | 26 => some (.inr (1, arL 64 (s.2.2.1 4)))
  | 27 => some (.inr (1, arL 420 (s.2.2.1 6)))
  | 28 => some (.inr (1, arL 420 (s.2.2.1 8)))
  | 29 => some (.inr (1, arL 4 (s.2.2.1 10)))
  | 30 => some (.inr (1, arL 4 (s.2.2.1 11)))
  | 31 => some (.inr (3, arL 3840 (s.2.2.1 12)))
  | 32 => some (.inr (1, arL 24 (s.2.2.1 13)))
  | 33 => some (.inr (3, arL 320 (s.2.2.1 14)))
  | 34 => some (.inr (1, arL 2 (s.2.2.1 15)))
  | 35 => some (.inr (1, arL 2 (s.2.2.1 16)))
  | 36 => some (.inr (3, arL 240 (s.2.2.1 17)))
  | 37 => some (.inr (1, arL 240 (s.2.2.1 18)))
  | 38 => some (.inr (1, arL 240 (s.2.2.1 19)))
  | 39 => some (.inr (1, arL 240 (s.2.2.1 20)))
  | 40 => some (.inr (3, arL 240 (s.2.2.1 21)))
  | 41 => some (.inr (1, arL 240 (s.2.2.1 22)))
  | 42 => some (.inr (1, arL 240 (s.2.2.1 23)))
  | 43 => some (.inr (1, arL 240 (s.2.2.1 24)))
  | 44 => some (.inr (4, arL 320 (s.2.2.1 25)))
  | 45 => some (.inr (1, arL 8 (s.2.2.1 27)))
  | 46 => some (.inr (1, arL 8 (s.2.2.1 28)))
  | 47 => some (.inr (1, arL 10 (s.2.2.1 32)))
  | 48 => some (.inr (1, arL 10 (s.2.2.1 33)))
  | 49 => some (.inr (1, arL 10 (s.2.2.1 34)))
  | 50 => some (.inr (1, arL 10 (s.2.2.1 35)))
  | 51 => some (.inr (1, arL 10 (s.2.2.1 36)))
  | 52 => some (.inr (1, arL 100 (s.2.2.1 41)))
  | 53 => some (.inr (2, arW 240 s.2.2.2))
  | 54 => some (.inr (1, arL 10 (s.2.2.1 43)))
  | 55 => some (.inr (1, arL 10 (s.2.2.1 44)))
  | 56 => some (.inr (1, arL 10 (s.2.2.1 45)))
  | 57 => some (.inr (1, arL 10 (s.2.2.1 46)))
  | 58 => some (.inr (1, arL 10 (s.2.2.1 47)))
  | _ => none
def mH (h : ax_Hp) (s : mS) : ax_Hp := (h.1, h.2.1, fun q => if q = 24 then some (.inl (9, mF s)) else if 25 ≤ q ∧ q ≤ 58 then mA s q else h.2.2 q)
def mI (s : mS) (k : Nat) (v : Int) : mS := (fun j => if j = k then v else s.1 j, s.2)
def mL (s : mS) (v : Int) : mS := (s.1, v, s.2.2)
def mU (s : mS) (k : Nat) (i : Int) (v : Int) : mS := (s.1, s.2.1, fun j m => if j = k ∧ m = i.toNat then v else s.2.2.1 j m, s.2.2.2)
def mW (s : mS) (i : Int) (v : Int64) : mS := (s.1, s.2.1, s.2.2.1, fun m => if m = i.toNat then v else s.2.2.2 m)
theorem mH_1 (h : ax_Hp) (s : mS) : (mH h s).1 = h.1 := rfl
theorem mH_2 (h : ax_Hp) (s : mS) : (mH h s).2.1 = h.2.1 := rfl
theorem mH_H (h : ax_Hp) (s t : mS) : mH (mH h s) t = mH h t := by
  refine Prod.ext rfl (Prod.ext rfl ?_)
  funext q
  show (if q = 24 then _ else if 25 ≤ q ∧ q ≤ 58 then _ else if q = 24 then _ else if 25 ≤ q ∧ q ≤ 58 then _ else _) = (if q = 24 then _ else if 25 ≤ q ∧ q ≤ 58 then _ else _)
  by_cases c1 : q = 24
  · rw [if_pos c1, if_pos c1]
  · by_cases c2 : 25 ≤ q ∧ q ≤ 58
    · rw [if_neg c1, if_pos c2, if_neg c1, if_pos c2]
    · rw [if_neg c1, if_neg c2, if_neg c1, if_neg c2, if_neg c1, if_neg c2]
theorem mH_o (h : ax_Hp) (s : mS) {q : Nat} (hq : q < 24 ∨ 58 < q) : (mH h s).2.2 q = h.2.2 q := by
  show (if q = 24 then _ else if 25 ≤ q ∧ q ≤ 58 then _ else _) = _
  rw [if_neg (by omega), if_neg (by omega)]
theorem mI_1 (s : mS) (k j : Nat) (v : Int) : (mI s k v).1 j = if j = k then v else s.1 j := rfl
theorem mI_2 (s : mS) (k : Nat) (v : Int) : (mI s k v).2 = s.2 := rfl
theorem mL_1 (s : mS) (v : Int) : (mL s v).1 = s.1 := rfl
theorem mL_2 (s : mS) (v : Int) : (mL s v).2.1 = v := rfl
theorem mL_3 (s : mS) (v : Int) : (mL s v).2.2 = s.2.2 := rfl
theorem mU_1 (s : mS) (k : Nat) (i v : Int) : (mU s k i v).1 = s.1 := rfl
theorem mU_2 (s : mS) (k : Nat) (i v : Int) : (mU s k i v).2.1 = s.2.1 := rfl
theorem mU_3 (s : mS) (k j m : Nat) (i v : Int) : (mU s k i v).2.2.1 j m = if j = k ∧ m = i.toNat then v else s.2.2.1 j m := rfl
theorem mU_4 (s : mS) (k : Nat) (i v : Int) : (mU s k i v).2.2.2 = s.2.2.2 := rfl
theorem mW_1 (s : mS) (i : Int) (v : Int64) : (mW s i v).1 = s.1 := rfl
theorem mW_2 (s : mS) (i : Int) (v : Int64) : (mW s i v).2.1 = s.2.1 := rfl
theorem mW_3 (s : mS) (i : Int) (v : Int64) : (mW s i v).2.2.1 = s.2.2.1 := rfl
theorem mW_4 (s : mS) (m : Nat) (i : Int) (v : Int64) : (mW s i v).2.2.2 m = if m = i.toNat then v else s.2.2.2 m := rfl
theorem arL_len (n : Nat) (f : Nat → Int) : (arL n f).length = n := by unfold arL; rw [List.length_map, List.length_range]
theorem arW_len (n : Nat) (f : Nat → Int64) : (arW n f).length = n := by unfold arW; rw [List.length_map, List.length_range]
theorem arL_at {n i : Nat} (f : Nat → Int) (hi : i < n) : (arL n f)[i]? = some (ax_I (Int32.ofInt (f i))) := by
  unfold arL; rw [List.getElem?_map, List.getElem?_range hi]; rfl
theorem arW_at {n i : Nat} (f : Nat → Int64) (hi : i < n) : (arW n f)[i]? = some (ax_L (f i)) := by
  unfold arW; rw [List.getElem?_map, List.getElem?_range hi]; rfl
theorem arL_set {n i : Nat} (f : Nat → Int) (v : Int) : (arL n f).set i (ax_I (Int32.ofInt v)) = arL n (fun m => if m = i then v else f m) := by
  refine List.ext_getElem? fun j => ?_
  by_cases hj : j < n
  · rw [arL_at _ hj, List.getElem?_set, arL_len]
    by_cases e : i = j
    · rw [if_pos e, if_pos (by omega), if_pos e.symm]
    · rw [if_neg e, arL_at _ hj, if_neg (fun x => e x.symm)]
  · rw [List.getElem?_eq_none (by rw [List.length_set, arL_len]; omega), List.getElem?_eq_none (by rw [arL_len]; omega)]
theorem arW_set {n i : Nat} (f : Nat → Int64) (v : Int64) : (arW n f).set i (ax_L v) = arW n (fun m => if m = i then v else f m) := by
  refine List.ext_getElem? fun j => ?_
  by_cases hj : j < n
  · rw [arW_at _ hj, List.getElem?_set, arW_len]
    by_cases e : i = j
    · rw [if_pos e, if_pos (by omega), if_pos e.symm]
    · rw [if_neg e, arW_at _ hj, if_neg (fun x => e x.symm)]
  · rw [List.getElem?_eq_none (by rw [List.length_set, arW_len]; omega), List.getElem?_eq_none (by rw [arW_len]; omega)]
/-- whole numbers as ints -/
theorem zi_toInt {a : Int} (h1 : -2147483648 ≤ a) (h2 : a < 2147483648) : (Int32.ofInt a).toInt = a := Int32.toInt_ofInt_of_le h1 h2
theorem zi_lt {a b : Int} (h1 : -2147483648 ≤ a) (h2 : a < 2147483648) (h3 : -2147483648 ≤ b) (h4 : b < 2147483648) : (Int32.ofInt a < Int32.ofInt b) = (a < b) := by
  rw [Int32.lt_iff_toInt_lt, zi_toInt h1 h2, zi_toInt h3 h4]
theorem zi_le {a b : Int} (h1 : -2147483648 ≤ a) (h2 : a < 2147483648) (h3 : -2147483648 ≤ b) (h4 : b < 2147483648) : (Int32.ofInt a ≤ Int32.ofInt b) = (a ≤ b) := by
  rw [Int32.le_iff_toInt_le, zi_toInt h1 h2, zi_toInt h3 h4]
theorem zi_eq {a b : Int} (h1 : -2147483648 ≤ a) (h2 : a < 2147483648) (h3 : -2147483648 ≤ b) (h4 : b < 2147483648) : (Int32.ofInt a = Int32.ofInt b) = (a = b) := by
  rw [← Int32.toInt_inj, zi_toInt h1 h2, zi_toInt h3 h4]
theorem zi_ix {i : Int} (h0 : 0 ≤ i) (h1 : i < 2147483648) : (Int32.ofInt i).toNatClampNeg = i.toNat := by
  show (Int32.ofInt i).toInt.toNat = _
  rw [zi_toInt (by omega) h1]
theorem zi_n0 {i : Int} (h0 : 0 ≤ i) (h1 : i < 2147483648) : ¬ Int32.ofInt i < 0 := by
  rw [show (0 : Int32) = Int32.ofInt 0 from rfl, zi_lt (by omega) h1 (by omega) (by omega)]
  omega
theorem zi_lit (n : Nat) : (OfNat.ofNat n : Int32) = Int32.ofInt (OfNat.ofNat n : Int) := (Int32.ofInt_eq_ofNat).symm
theorem zi_neg (a : Int) : - Int32.ofInt a = Int32.ofInt (-a) := (Int32.ofInt_neg a).symm
theorem zi_add (a b : Int) : Int32.ofInt a + Int32.ofInt b = Int32.ofInt (a + b) := (Int32.ofInt_add a b).symm
theorem zi_sub (a b : Int) : Int32.ofInt a - Int32.ofInt b = Int32.ofInt (a - b) := Int32.ofInt_sub _ _ |>.symm
theorem zi_mul (a b : Int) : Int32.ofInt a * Int32.ofInt b = Int32.ofInt (a * b) := (Int32.ofInt_mul a b).symm
/-- what lies where -/
theorem za_ld {h : ax_Hp} {a kd n : Nat} {f : Nat → Int} {i : Int} (e : h.2.2 a = some (.inr (kd, arL n f))) (h0 : 0 ≤ i) (h1 : i < n) (hn : n < 2147483648) : ax_ldi h (some a) kd (Int32.ofInt i) = some (Int32.ofInt (f i.toNat)) := by
  unfold ax_ldi ax_ld
  rw [pl_arr e, Option.bind_some, if_neg (zi_n0 h0 (by omega)), zi_ix h0 (by omega), arL_at f (by omega)]
  rfl
theorem za_ldl {h : ax_Hp} {a kd n : Nat} {f : Nat → Int64} {i : Int} (e : h.2.2 a = some (.inr (kd, arW n f))) (h0 : 0 ≤ i) (h1 : i < n) (hn : n < 2147483648) : ax_ldl h (some a) kd (Int32.ofInt i) = some (f i.toNat) := by
  unfold ax_ldl ax_ld
  rw [pl_arr e, Option.bind_some, if_neg (zi_n0 h0 (by omega)), zi_ix h0 (by omega), arW_at f (by omega)]
  rfl
theorem za_st {h : ax_Hp} {a kd n : Nat} {f : Nat → Int} {i v : Int} (e : h.2.2 a = some (.inr (kd, arL n f))) (h0 : 0 ≤ i) (h1 : i < n) (hn : n < 2147483648) : ax_st h (some a) kd (Int32.ofInt i) (ax_I (Int32.ofInt v)) = some (ax_set h a (.inr (kd, arL n (fun m => if m = i.toNat then v else f m)))) := by
  unfold ax_st
  rw [pl_arr e, Option.bind_some, zi_ix h0 (by omega), arL_len, if_neg (fun z => z.elim (zi_n0 h0 (by omega)) (fun z => by omega)), arL_set]
  rfl
theorem za_stl {h : ax_Hp} {a kd n : Nat} {f : Nat → Int64} {i : Int} {v : Int64} (e : h.2.2 a = some (.inr (kd, arW n f))) (h0 : 0 ≤ i) (h1 : i < n) (hn : n < 2147483648) : ax_st h (some a) kd (Int32.ofInt i) (ax_L v) = some (ax_set h a (.inr (kd, arW n (fun m => if m = i.toNat then v else f m)))) := by
  unfold ax_st
  rw [pl_arr e, Option.bind_some, zi_ix h0 (by omega), arW_len, if_neg (fun z => z.elim (zi_n0 h0 (by omega)) (fun z => by omega)), arW_set]
  rfl
theorem zi_nc {v : Int} (h0 : 0 ≤ v) (h1 : v < 65536) : ax_nc (Int32.ofInt v) = Int32.ofInt v := by
  have e : v = (v.toNat : Int) := by omega
  have hn : v.toNat < 65536 := by omega
  rw [e, Int32.ofInt_eq_ofNat]
  generalize v.toNat = n at hn
  apply Int32.toBitVec_inj.mp
  apply BitVec.eq_of_toNat_eq
  unfold ax_nc
  simp
  omega
theorem za_rc {v : Int} {h : ax_Hp} (h0 : 0 ≤ v) (h1 : v < 65536) : ax_rc (Int32.ofInt v) h = some (.inl (some (ax_I (Int32.ofInt v))), h) := if_pos (zi_nc h0 h1)
theorem za_rz {v : Int} {h : ax_Hp} (h0 : v = 0 ∨ v = 1) : ax_rz (Int32.ofInt v) h = some (.inl (some (ax_I (Int32.ofInt v))), h) := by
  unfold ax_rz
  rcases h0 with rfl | rfl
  · exact if_pos (Or.inl rfl)
  · exact if_pos (Or.inr rfl)
theorem mH_set (h : ax_Hp) (s t : mS) (a : Nat) (o : ax_Ob) (ha : 24 ≤ a ∧ a ≤ 58) (e : (mH h t).2.2 a = some o) (hF : a = 24 ∨ mF t = mF s) (ho : ∀ q, 25 ≤ q → q ≤ 58 → q ≠ a → mA t q = mA s q) : ax_set (mH h s) a o = mH h t := by
  refine Prod.ext rfl (Prod.ext rfl ?_)
  funext q
  by_cases c : q = a
  · subst c
    rw [pl_set, e]
  · rw [pl_ne c]
    show (if q = 24 then _ else if 25 ≤ q ∧ q ≤ 58 then _ else _) = (if q = 24 then _ else if 25 ≤ q ∧ q ≤ 58 then _ else _)
    by_cases c1 : q = 24
    · rw [if_pos c1, if_pos c1]
      rcases hF with hF | hF
      · exact absurd (c1.trans hF.symm) c
      · rw [hF]
    · by_cases c2 : 25 ≤ q ∧ q ≤ 58
      · rw [if_neg c1, if_pos c2, if_neg c1, if_pos c2, ho q c2.1 c2.2 c]
      · rw [if_neg c1, if_neg c2, if_neg c1, if_neg c2]
def mAd (k : Nat) : Nat := match k with
  | 2 => 25
  | 4 => 26
  | 6 => 27
  | 8 => 28
  | 10 => 29
  | 11 => 30
  | 12 => 31
  | 13 => 32
  | 14 => 33
  | 15 => 34
  | 16 => 35
  | 17 => 36
  | 18 => 37
  | 19 => 38
  | 20 => 39
  | 21 => 40
  | 22 => 41
  | 23 => 42
  | 24 => 43
  | 25 => 44
  | 27 => 45
  | 28 => 46
  | 32 => 47
  | 33 => 48
  | 34 => 49
  | 35 => 50
  | 36 => 51
  | 41 => 52
  | 42 => 53
  | 43 => 54
  | 44 => 55
  | 45 => 56
  | 46 => 57
  | 47 => 58
  | _ => 0
theorem mU_at (s : mS) (k : Nat) (i v : Int) : (mU s k i v).2.2.1 k = fun m => if m = i.toNat then v else s.2.2.1 k m := by
  funext m
  show (if k = k ∧ m = i.toNat then v else _) = _
  by_cases c : m = i.toNat
  · rw [if_pos ⟨rfl, c⟩, if_pos c]
  · rw [if_neg (fun z => c z.2), if_neg c]
theorem mU_ne (s : mS) (k j : Nat) (i v : Int) (hj : j ≠ k) : (mU s k i v).2.2.1 j = s.2.2.1 j := by
  funext m
  exact if_neg (fun z => hj z.1)
theorem mA_c {q : Nat} (P : Nat → Prop) (h1 : 25 ≤ q) (h2 : q ≤ 58) (p25 : P 25) (p26 : P 26) (p27 : P 27) (p28 : P 28) (p29 : P 29) (p30 : P 30) (p31 : P 31) (p32 : P 32) (p33 : P 33) (p34 : P 34) (p35 : P 35) (p36 : P 36) (p37 : P 37) (p38 : P 38) (p39 : P 39) (p40 : P 40) (p41 : P 41) (p42 : P 42) (p43 : P 43) (p44 : P 44) (p45 : P 45) (p46 : P 46) (p47 : P 47) (p48 : P 48) (p49 : P 49) (p50 : P 50) (p51 : P 51) (p52 : P 52) (p53 : P 53) (p54 : P 54) (p55 : P 55) (p56 : P 56) (p57 : P 57) (p58 : P 58) : P q := by
  by_cases c25 : q = 25
  · subst c25; exact p25
  by_cases c26 : q = 26
  · subst c26; exact p26
  by_cases c27 : q = 27
  · subst c27; exact p27
  by_cases c28 : q = 28
  · subst c28; exact p28
  by_cases c29 : q = 29
  · subst c29; exact p29
  by_cases c30 : q = 30
  · subst c30; exact p30
  by_cases c31 : q = 31
  · subst c31; exact p31
  by_cases c32 : q = 32
  · subst c32; exact p32
  by_cases c33 : q = 33
  · subst c33; exact p33
  by_cases c34 : q = 34
  · subst c34; exact p34
  by_cases c35 : q = 35
  · subst c35; exact p35
  by_cases c36 : q = 36
  · subst c36; exact p36
  by_cases c37 : q = 37
  · subst c37; exact p37
  by_cases c38 : q = 38
  · subst c38; exact p38
  by_cases c39 : q = 39
  · subst c39; exact p39
  by_cases c40 : q = 40
  · subst c40; exact p40
  by_cases c41 : q = 41
  · subst c41; exact p41
  by_cases c42 : q = 42
  · subst c42; exact p42
  by_cases c43 : q = 43
  · subst c43; exact p43
  by_cases c44 : q = 44
  · subst c44; exact p44
  by_cases c45 : q = 45
  · subst c45; exact p45
  by_cases c46 : q = 46
  · subst c46; exact p46
  by_cases c47 : q = 47
  · subst c47; exact p47
  by_cases c48 : q = 48
  · subst c48; exact p48
  by_cases c49 : q = 49
  · subst c49; exact p49
  by_cases c50 : q = 50
  · subst c50; exact p50
  by_cases c51 : q = 51
  · subst c51; exact p51
  by_cases c52 : q = 52
  · subst c52; exact p52
  by_cases c53 : q = 53
  · subst c53; exact p53
  by_cases c54 : q = 54
  · subst c54; exact p54
  by_cases c55 : q = 55
  · subst c55; exact p55
  by_cases c56 : q = 56
  · subst c56; exact p56
  by_cases c57 : q = 57
  · subst c57; exact p57
  by_cases c58 : q = 58
  · subst c58; exact p58
  exact absurd h1 (by omega)
theorem mA_W (s : mS) (i : Int) (v : Int64) (q : Nat) (h1 : 25 ≤ q) (h2 : q ≤ 58) (hq : q ≠ 53) : mA (mW s i v) q = mA s q := mA_c (fun q => q ≠ 53 → mA (mW s i v) q = mA s q) h1 h2 (fun _ => rfl) (fun _ => rfl) (fun _ => rfl) (fun _ => rfl) (fun _ => rfl) (fun _ => rfl) (fun _ => rfl) (fun _ => rfl) (fun _ => rfl) (fun _ => rfl) (fun _ => rfl) (fun _ => rfl) (fun _ => rfl) (fun _ => rfl) (fun _ => rfl) (fun _ => rfl) (fun _ => rfl) (fun _ => rfl) (fun _ => rfl) (fun _ => rfl) (fun _ => rfl) (fun _ => rfl) (fun _ => rfl) (fun _ => rfl) (fun _ => rfl) (fun _ => rfl) (fun _ => rfl) (fun _ => rfl) (fun z => absurd rfl z) (fun _ => rfl) (fun _ => rfl) (fun _ => rfl) (fun _ => rfl) (fun _ => rfl) hq
theorem mA_U (s : mS) (k : Nat) (i v : Int) (a : Nat) (ha : mAd k = a) (q : Nat) (h1 : 25 ≤ q) (h2 : q ≤ 58) (hq : q ≠ a) : mA (mU s k i v) q = mA s q := by
  subst ha
  refine mA_c (fun q => q ≠ mAd k → mA (mU s k i v) q = mA s q) h1 h2 ?_ ?_ ?_ ?_ ?_ ?_ ?_ ?_ ?_ ?_ ?_ ?_ ?_ ?_ ?_ ?_ ?_ ?_ ?_ ?_ ?_ ?_ ?_ ?_ ?_ ?_ ?_ ?_ (fun _ => rfl) ?_ ?_ ?_ ?_ ?_ hq
  · intro z; have e := mU_ne s k 2 i v (fun c => z (c ▸ rfl)); show some (Sum.inr (3, arL 160 ((mU s k i v).2.2.1 2))) = _; rw [e]; rfl
  · intro z; have e := mU_ne s k 4 i v (fun c => z (c ▸ rfl)); show some (Sum.inr (1, arL 64 ((mU s k i v).2.2.1 4))) = _; rw [e]; rfl
  · intro z; have e := mU_ne s k 6 i v (fun c => z (c ▸ rfl)); show some (Sum.inr (1, arL 420 ((mU s k i v).2.2.1 6))) = _; rw [e]; rfl
  · intro z; have e := mU_ne s k 8 i v (fun c => z (c ▸ rfl)); show some (Sum.inr (1, arL 420 ((mU s k i v).2.2.1 8))) = _; rw [e]; rfl
  · intro z; have e := mU_ne s k 10 i v (fun c => z (c ▸ rfl)); show some (Sum.inr (1, arL 4 ((mU s k i v).2.2.1 10))) = _; rw [e]; rfl
  · intro z; have e := mU_ne s k 11 i v (fun c => z (c ▸ rfl)); show some (Sum.inr (1, arL 4 ((mU s k i v).2.2.1 11))) = _; rw [e]; rfl
  · intro z; have e := mU_ne s k 12 i v (fun c => z (c ▸ rfl)); show some (Sum.inr (3, arL 3840 ((mU s k i v).2.2.1 12))) = _; rw [e]; rfl
  · intro z; have e := mU_ne s k 13 i v (fun c => z (c ▸ rfl)); show some (Sum.inr (1, arL 24 ((mU s k i v).2.2.1 13))) = _; rw [e]; rfl
  · intro z; have e := mU_ne s k 14 i v (fun c => z (c ▸ rfl)); show some (Sum.inr (3, arL 320 ((mU s k i v).2.2.1 14))) = _; rw [e]; rfl
  · intro z; have e := mU_ne s k 15 i v (fun c => z (c ▸ rfl)); show some (Sum.inr (1, arL 2 ((mU s k i v).2.2.1 15))) = _; rw [e]; rfl
  · intro z; have e := mU_ne s k 16 i v (fun c => z (c ▸ rfl)); show some (Sum.inr (1, arL 2 ((mU s k i v).2.2.1 16))) = _; rw [e]; rfl
  · intro z; have e := mU_ne s k 17 i v (fun c => z (c ▸ rfl)); show some (Sum.inr (3, arL 240 ((mU s k i v).2.2.1 17))) = _; rw [e]; rfl
  · intro z; have e := mU_ne s k 18 i v (fun c => z (c ▸ rfl)); show some (Sum.inr (1, arL 240 ((mU s k i v).2.2.1 18))) = _; rw [e]; rfl
  · intro z; have e := mU_ne s k 19 i v (fun c => z (c ▸ rfl)); show some (Sum.inr (1, arL 240 ((mU s k i v).2.2.1 19))) = _; rw [e]; rfl
  · intro z; have e := mU_ne s k 20 i v (fun c => z (c ▸ rfl)); show some (Sum.inr (1, arL 240 ((mU s k i v).2.2.1 20))) = _; rw [e]; rfl
  · intro z; have e := mU_ne s k 21 i v (fun c => z (c ▸ rfl)); show some (Sum.inr (3, arL 240 ((mU s k i v).2.2.1 21))) = _; rw [e]; rfl
  · intro z; have e := mU_ne s k 22 i v (fun c => z (c ▸ rfl)); show some (Sum.inr (1, arL 240 ((mU s k i v).2.2.1 22))) = _; rw [e]; rfl
  · intro z; have e := mU_ne s k 23 i v (fun c => z (c ▸ rfl)); show some (Sum.inr (1, arL 240 ((mU s k i v).2.2.1 23))) = _; rw [e]; rfl
  · intro z; have e := mU_ne s k 24 i v (fun c => z (c ▸ rfl)); show some (Sum.inr (1, arL 240 ((mU s k i v).2.2.1 24))) = _; rw [e]; rfl
  · intro z; have e := mU_ne s k 25 i v (fun c => z (c ▸ rfl)); show some (Sum.inr (4, arL 320 ((mU s k i v).2.2.1 25))) = _; rw [e]; rfl
  · intro z; have e := mU_ne s k 27 i v (fun c => z (c ▸ rfl)); show some (Sum.inr (1, arL 8 ((mU s k i v).2.2.1 27))) = _; rw [e]; rfl
  · intro z; have e := mU_ne s k 28 i v (fun c => z (c ▸ rfl)); show some (Sum.inr (1, arL 8 ((mU s k i v).2.2.1 28))) = _; rw [e]; rfl
  · intro z; have e := mU_ne s k 32 i v (fun c => z (c ▸ rfl)); show some (Sum.inr (1, arL 10 ((mU s k i v).2.2.1 32))) = _; rw [e]; rfl
  · intro z; have e := mU_ne s k 33 i v (fun c => z (c ▸ rfl)); show some (Sum.inr (1, arL 10 ((mU s k i v).2.2.1 33))) = _; rw [e]; rfl
  · intro z; have e := mU_ne s k 34 i v (fun c => z (c ▸ rfl)); show some (Sum.inr (1, arL 10 ((mU s k i v).2.2.1 34))) = _; rw [e]; rfl
  · intro z; have e := mU_ne s k 35 i v (fun c => z (c ▸ rfl)); show some (Sum.inr (1, arL 10 ((mU s k i v).2.2.1 35))) = _; rw [e]; rfl
  · intro z; have e := mU_ne s k 36 i v (fun c => z (c ▸ rfl)); show some (Sum.inr (1, arL 10 ((mU s k i v).2.2.1 36))) = _; rw [e]; rfl
  · intro z; have e := mU_ne s k 41 i v (fun c => z (c ▸ rfl)); show some (Sum.inr (1, arL 100 ((mU s k i v).2.2.1 41))) = _; rw [e]; rfl
  · intro z; have e := mU_ne s k 43 i v (fun c => z (c ▸ rfl)); show some (Sum.inr (1, arL 10 ((mU s k i v).2.2.1 43))) = _; rw [e]; rfl
  · intro z; have e := mU_ne s k 44 i v (fun c => z (c ▸ rfl)); show some (Sum.inr (1, arL 10 ((mU s k i v).2.2.1 44))) = _; rw [e]; rfl
  · intro z; have e := mU_ne s k 45 i v (fun c => z (c ▸ rfl)); show some (Sum.inr (1, arL 10 ((mU s k i v).2.2.1 45))) = _; rw [e]; rfl
  · intro z; have e := mU_ne s k 46 i v (fun c => z (c ▸ rfl)); show some (Sum.inr (1, arL 10 ((mU s k i v).2.2.1 46))) = _; rw [e]; rfl
  · intro z; have e := mU_ne s k 47 i v (fun c => z (c ▸ rfl)); show some (Sum.inr (1, arL 10 ((mU s k i v).2.2.1 47))) = _; rw [e]; rfl
theorem mS_on (h : ax_Hp) (s : mS) (k : ax_O) : ax_on (mH h s) (some 24) 9 k = k := rfl
theorem mgi_0 (h : ax_Hp) (s : mS) : ax_gi (mH h s) (some 24) 9 0 = some (Int32.ofInt (s.1 0)) := rfl
theorem mpf_0 (h : ax_Hp) (s : mS) (v : Int) : ax_pf (mH h s) (some 24) 9 0 (ax_I (Int32.ofInt v)) = some (mH h (mI s 0 v)) := congrArg some (mH_set h s (mI s 0 v) 24 _ (by decide) rfl (Or.inl rfl) (fun q _ _ _ => rfl))
theorem mgi_1 (h : ax_Hp) (s : mS) : ax_gi (mH h s) (some 24) 9 1 = some (Int32.ofInt (s.1 1)) := rfl
theorem mpf_1 (h : ax_Hp) (s : mS) (v : Int) : ax_pf (mH h s) (some 24) 9 1 (ax_I (Int32.ofInt v)) = some (mH h (mI s 1 v)) := congrArg some (mH_set h s (mI s 1 v) 24 _ (by decide) rfl (Or.inl rfl) (fun q _ _ _ => rfl))
theorem mgi_3 (h : ax_Hp) (s : mS) : ax_gi (mH h s) (some 24) 9 3 = some (Int32.ofInt (s.1 3)) := rfl
theorem mpf_3 (h : ax_Hp) (s : mS) (v : Int) : ax_pf (mH h s) (some 24) 9 3 (ax_I (Int32.ofInt v)) = some (mH h (mI s 3 v)) := congrArg some (mH_set h s (mI s 3 v) 24 _ (by decide) rfl (Or.inl rfl) (fun q _ _ _ => rfl))
theorem mgi_5 (h : ax_Hp) (s : mS) : ax_gi (mH h s) (some 24) 9 5 = some (Int32.ofInt (s.1 5)) := rfl
theorem mpf_5 (h : ax_Hp) (s : mS) (v : Int) : ax_pf (mH h s) (some 24) 9 5 (ax_I (Int32.ofInt v)) = some (mH h (mI s 5 v)) := congrArg some (mH_set h s (mI s 5 v) 24 _ (by decide) rfl (Or.inl rfl) (fun q _ _ _ => rfl))
theorem mgi_7 (h : ax_Hp) (s : mS) : ax_gi (mH h s) (some 24) 9 7 = some (Int32.ofInt (s.1 7)) := rfl
theorem mpf_7 (h : ax_Hp) (s : mS) (v : Int) : ax_pf (mH h s) (some 24) 9 7 (ax_I (Int32.ofInt v)) = some (mH h (mI s 7 v)) := congrArg some (mH_set h s (mI s 7 v) 24 _ (by decide) rfl (Or.inl rfl) (fun q _ _ _ => rfl))
theorem mgi_9 (h : ax_Hp) (s : mS) : ax_gi (mH h s) (some 24) 9 9 = some (Int32.ofInt (s.1 9)) := rfl
theorem mpf_9 (h : ax_Hp) (s : mS) (v : Int) : ax_pf (mH h s) (some 24) 9 9 (ax_I (Int32.ofInt v)) = some (mH h (mI s 9 v)) := congrArg some (mH_set h s (mI s 9 v) 24 _ (by decide) rfl (Or.inl rfl) (fun q _ _ _ => rfl))
theorem mgi_26 (h : ax_Hp) (s : mS) : ax_gi (mH h s) (some 24) 9 26 = some (Int32.ofInt (s.1 26)) := rfl
theorem mpf_26 (h : ax_Hp) (s : mS) (v : Int) : ax_pf (mH h s) (some 24) 9 26 (ax_I (Int32.ofInt v)) = some (mH h (mI s 26 v)) := congrArg some (mH_set h s (mI s 26 v) 24 _ (by decide) rfl (Or.inl rfl) (fun q _ _ _ => rfl))
theorem mgi_29 (h : ax_Hp) (s : mS) : ax_gi (mH h s) (some 24) 9 29 = some (Int32.ofInt (s.1 29)) := rfl
theorem mpf_29 (h : ax_Hp) (s : mS) (v : Int) : ax_pf (mH h s) (some 24) 9 29 (ax_I (Int32.ofInt v)) = some (mH h (mI s 29 v)) := congrArg some (mH_set h s (mI s 29 v) 24 _ (by decide) rfl (Or.inl rfl) (fun q _ _ _ => rfl))
theorem mgi_30 (h : ax_Hp) (s : mS) : ax_gi (mH h s) (some 24) 9 30 = some (Int32.ofInt (s.1 30)) := rfl
theorem mpf_30 (h : ax_Hp) (s : mS) (v : Int) : ax_pf (mH h s) (some 24) 9 30 (ax_I (Int32.ofInt v)) = some (mH h (mI s 30 v)) := congrArg some (mH_set h s (mI s 30 v) 24 _ (by decide) rfl (Or.inl rfl) (fun q _ _ _ => rfl))
theorem mgi_31 (h : ax_Hp) (s : mS) : ax_gi (mH h s) (some 24) 9 31 = some (Int32.ofInt (s.1 31)) := rfl
theorem mpf_31 (h : ax_Hp) (s : mS) (v : Int) : ax_pf (mH h s) (some 24) 9 31 (ax_I (Int32.ofInt v)) = some (mH h (mI s 31 v)) := congrArg some (mH_set h s (mI s 31 v) 24 _ (by decide) rfl (Or.inl rfl) (fun q _ _ _ => rfl))
theorem mgi_38 (h : ax_Hp) (s : mS) : ax_gi (mH h s) (some 24) 9 38 = some (Int32.ofInt (s.1 38)) := rfl
theorem mpf_38 (h : ax_Hp) (s : mS) (v : Int) : ax_pf (mH h s) (some 24) 9 38 (ax_I (Int32.ofInt v)) = some (mH h (mI s 38 v)) := congrArg some (mH_set h s (mI s 38 v) 24 _ (by decide) rfl (Or.inl rfl) (fun q _ _ _ => rfl))
theorem mgi_39 (h : ax_Hp) (s : mS) : ax_gi (mH h s) (some 24) 9 39 = some (Int32.ofInt (s.1 39)) := rfl
theorem mpf_39 (h : ax_Hp) (s : mS) (v : Int) : ax_pf (mH h s) (some 24) 9 39 (ax_I (Int32.ofInt v)) = some (mH h (mI s 39 v)) := congrArg some (mH_set h s (mI s 39 v) 24 _ (by decide) rfl (Or.inl rfl) (fun q _ _ _ => rfl))
theorem mgi_40 (h : ax_Hp) (s : mS) : ax_gi (mH h s) (some 24) 9 40 = some (Int32.ofInt (s.1 40)) := rfl
theorem mpf_40 (h : ax_Hp) (s : mS) (v : Int) : ax_pf (mH h s) (some 24) 9 40 (ax_I (Int32.ofInt v)) = some (mH h (mI s 40 v)) := congrArg some (mH_set h s (mI s 40 v) 24 _ (by decide) rfl (Or.inl rfl) (fun q _ _ _ => rfl))
theorem mgi_48 (h : ax_Hp) (s : mS) : ax_gi (mH h s) (some 24) 9 48 = some (Int32.ofInt (s.1 48)) := rfl
theorem mpf_48 (h : ax_Hp) (s : mS) (v : Int) : ax_pf (mH h s) (some 24) 9 48 (ax_I (Int32.ofInt v)) = some (mH h (mI s 48 v)) := congrArg some (mH_set h s (mI s 48 v) 24 _ (by decide) rfl (Or.inl rfl) (fun q _ _ _ => rfl))
theorem mgi_49 (h : ax_Hp) (s : mS) : ax_gi (mH h s) (some 24) 9 49 = some (Int32.ofInt (s.1 49)) := rfl
theorem mpf_49 (h : ax_Hp) (s : mS) (v : Int) : ax_pf (mH h s) (some 24) 9 49 (ax_I (Int32.ofInt v)) = some (mH h (mI s 49 v)) := congrArg some (mH_set h s (mI s 49 v) 24 _ (by decide) rfl (Or.inl rfl) (fun q _ _ _ => rfl))
theorem mpz_29 (h : ax_Hp) (s : mS) (v : Int) (hv : v = 0 ∨ v = 1) : ax_pz (mH h s) (some 24) 9 29 (Int32.ofInt v) = some (mH h (mI s 29 v)) := (if_pos (by rcases hv with rfl | rfl; exact Or.inl rfl; exact Or.inr rfl)).trans (mpf_29 h s v)
theorem mpz_49 (h : ax_Hp) (s : mS) (v : Int) (hv : v = 0 ∨ v = 1) : ax_pz (mH h s) (some 24) 9 49 (Int32.ofInt v) = some (mH h (mI s 49 v)) := (if_pos (by rcases hv with rfl | rfl; exact Or.inl rfl; exact Or.inr rfl)).trans (mpf_49 h s v)
theorem mgl_37 (h : ax_Hp) (s : mS) : ax_gl (mH h s) (some 24) 9 37 = some (Int64.ofInt s.2.1) := rfl
theorem mpf_37 (h : ax_Hp) (s : mS) (v : Int) : ax_pf (mH h s) (some 24) 9 37 (ax_L (Int64.ofInt v)) = some (mH h (mL s v)) := congrArg some (mH_set h s (mL s v) 24 _ (by decide) rfl (Or.inl rfl) (fun q _ _ _ => rfl))
theorem mgr_2 (h : ax_Hp) (s : mS) : ax_gr (mH h s) (some 24) 9 2 = some (some 25) := rfl
theorem mln_2 (h : ax_Hp) (s : mS) : ax_len (mH h s) (some 25) 3 = some (Int32.ofInt 160) := by
  unfold ax_len
  rw [pl_arr (es := arL 160 (s.2.2.1 2)) rfl, Option.map_some, arL_len]
  rfl
theorem mld_2 (h : ax_Hp) (s : mS) (i : Int) (h0 : 0 ≤ i) (h1 : i < 160) : ax_ldi (mH h s) (some 25) 3 (Int32.ofInt i) = some (Int32.ofInt (s.2.2.1 2 i.toNat)) := za_ld (n := 160) rfl h0 h1 (by decide)
theorem mst_2 (h : ax_Hp) (s : mS) (i v : Int) (h0 : 0 ≤ i) (h1 : i < 160) : ax_st (mH h s) (some 25) 3 (Int32.ofInt i) (ax_I (Int32.ofInt v)) = some (mH h (mU s 2 i v)) := (za_st (n := 160) rfl h0 h1 (by decide)).trans (congrArg some (mH_set h s (mU s 2 i v) 25 _ (by decide) (congrArg (fun f => some (Sum.inr (3, arL 160 f))) (mU_at s 2 i v)) (Or.inr rfl) (mA_U s 2 i v 25 rfl)))
theorem mstc_2 (h : ax_Hp) (s : mS) (i v : Int) (h0 : 0 ≤ i) (h1 : i < 160) (h2 : 0 ≤ v) (h3 : v < 65536) : ax_stc (mH h s) (some 25) 3 (Int32.ofInt i) (Int32.ofInt v) = some (mH h (mU s 2 i v)) := by
  unfold ax_stc
  rw [zi_nc h2 h3, mst_2 h s i v h0 h1]
theorem mgr_4 (h : ax_Hp) (s : mS) : ax_gr (mH h s) (some 24) 9 4 = some (some 26) := rfl
theorem mln_4 (h : ax_Hp) (s : mS) : ax_len (mH h s) (some 26) 1 = some (Int32.ofInt 64) := by
  unfold ax_len
  rw [pl_arr (es := arL 64 (s.2.2.1 4)) rfl, Option.map_some, arL_len]
  rfl
theorem mld_4 (h : ax_Hp) (s : mS) (i : Int) (h0 : 0 ≤ i) (h1 : i < 64) : ax_ldi (mH h s) (some 26) 1 (Int32.ofInt i) = some (Int32.ofInt (s.2.2.1 4 i.toNat)) := za_ld (n := 64) rfl h0 h1 (by decide)
theorem mst_4 (h : ax_Hp) (s : mS) (i v : Int) (h0 : 0 ≤ i) (h1 : i < 64) : ax_st (mH h s) (some 26) 1 (Int32.ofInt i) (ax_I (Int32.ofInt v)) = some (mH h (mU s 4 i v)) := (za_st (n := 64) rfl h0 h1 (by decide)).trans (congrArg some (mH_set h s (mU s 4 i v) 26 _ (by decide) (congrArg (fun f => some (Sum.inr (1, arL 64 f))) (mU_at s 4 i v)) (Or.inr rfl) (mA_U s 4 i v 26 rfl)))
theorem mgr_6 (h : ax_Hp) (s : mS) : ax_gr (mH h s) (some 24) 9 6 = some (some 27) := rfl
theorem mln_6 (h : ax_Hp) (s : mS) : ax_len (mH h s) (some 27) 1 = some (Int32.ofInt 420) := by
  unfold ax_len
  rw [pl_arr (es := arL 420 (s.2.2.1 6)) rfl, Option.map_some, arL_len]
  rfl
theorem mld_6 (h : ax_Hp) (s : mS) (i : Int) (h0 : 0 ≤ i) (h1 : i < 420) : ax_ldi (mH h s) (some 27) 1 (Int32.ofInt i) = some (Int32.ofInt (s.2.2.1 6 i.toNat)) := za_ld (n := 420) rfl h0 h1 (by decide)
theorem mst_6 (h : ax_Hp) (s : mS) (i v : Int) (h0 : 0 ≤ i) (h1 : i < 420) : ax_st (mH h s) (some 27) 1 (Int32.ofInt i) (ax_I (Int32.ofInt v)) = some (mH h (mU s 6 i v)) := (za_st (n := 420) rfl h0 h1 (by decide)).trans (congrArg some (mH_set h s (mU s 6 i v) 27 _ (by decide) (congrArg (fun f => some (Sum.inr (1, arL 420 f))) (mU_at s 6 i v)) (Or.inr rfl) (mA_U s 6 i v 27 rfl)))
theorem mgr_8 (h : ax_Hp) (s : mS) : ax_gr (mH h s) (some 24) 9 8 = some (some 28) := rfl
theorem mln_8 (h : ax_Hp) (s : mS) : ax_len (mH h s) (some 28) 1 = some (Int32.ofInt 420) := by
  unfold ax_len
  rw [pl_arr (es := arL 420 (s.2.2.1 8)) rfl, Option.map_some, arL_len]
  rfl
theorem mld_8 (h : ax_Hp) (s : mS) (i : Int) (h0 : 0 ≤ i) (h1 : i < 420) : ax_ldi (mH h s) (some 28) 1 (Int32.ofInt i) = some (Int32.ofInt (s.2.2.1 8 i.toNat)) := za_ld (n := 420) rfl h0 h1 (by decide)
theorem mst_8 (h : ax_Hp) (s : mS) (i v : Int) (h0 : 0 ≤ i) (h1 : i < 420) : ax_st (mH h s) (some 28) 1 (Int32.ofInt i) (ax_I (Int32.ofInt v)) = some (mH h (mU s 8 i v)) := (za_st (n := 420) rfl h0 h1 (by decide)).trans (congrArg some (mH_set h s (mU s 8 i v) 28 _ (by decide) (congrArg (fun f => some (Sum.inr (1, arL 420 f))) (mU_at s 8 i v)) (Or.inr rfl) (mA_U s 8 i v 28 rfl)))
theorem mgr_10 (h : ax_Hp) (s : mS) : ax_gr (mH h s) (some 24) 9 10 = some (some 29) := rfl
theorem mln_10 (h : ax_Hp) (s : mS) : ax_len (mH h s) (some 29) 1 = some (Int32.ofInt 4) := by
  unfold ax_len
  rw [pl_arr (es := arL 4 (s.2.2.1 10)) rfl, Option.map_some, arL_len]
  rfl
theorem mld_10 (h : ax_Hp) (s : mS) (i : Int) (h0 : 0 ≤ i) (h1 : i < 4) : ax_ldi (mH h s) (some 29) 1 (Int32.ofInt i) = some (Int32.ofInt (s.2.2.1 10 i.toNat)) := za_ld (n := 4) rfl h0 h1 (by decide)
theorem mst_10 (h : ax_Hp) (s : mS) (i v : Int) (h0 : 0 ≤ i) (h1 : i < 4) : ax_st (mH h s) (some 29) 1 (Int32.ofInt i) (ax_I (Int32.ofInt v)) = some (mH h (mU s 10 i v)) := (za_st (n := 4) rfl h0 h1 (by decide)).trans (congrArg some (mH_set h s (mU s 10 i v) 29 _ (by decide) (congrArg (fun f => some (Sum.inr (1, arL 4 f))) (mU_at s 10 i v)) (Or.inr rfl) (mA_U s 10 i v 29 rfl)))
theorem mgr_11 (h : ax_Hp) (s : mS) : ax_gr (mH h s) (some 24) 9 11 = some (some 30) := rfl
theorem mln_11 (h : ax_Hp) (s : mS) : ax_len (mH h s) (some 30) 1 = some (Int32.ofInt 4) := by
  unfold ax_len
  rw [pl_arr (es := arL 4 (s.2.2.1 11)) rfl, Option.map_some, arL_len]
  rfl
theorem mld_11 (h : ax_Hp) (s : mS) (i : Int) (h0 : 0 ≤ i) (h1 : i < 4) : ax_ldi (mH h s) (some 30) 1 (Int32.ofInt i) = some (Int32.ofInt (s.2.2.1 11 i.toNat)) := za_ld (n := 4) rfl h0 h1 (by decide)
theorem mst_11 (h : ax_Hp) (s : mS) (i v : Int) (h0 : 0 ≤ i) (h1 : i < 4) : ax_st (mH h s) (some 30) 1 (Int32.ofInt i) (ax_I (Int32.ofInt v)) = some (mH h (mU s 11 i v)) := (za_st (n := 4) rfl h0 h1 (by decide)).trans (congrArg some (mH_set h s (mU s 11 i v) 30 _ (by decide) (congrArg (fun f => some (Sum.inr (1, arL 4 f))) (mU_at s 11 i v)) (Or.inr rfl) (mA_U s 11 i v 30 rfl)))
theorem mgr_12 (h : ax_Hp) (s : mS) : ax_gr (mH h s) (some 24) 9 12 = some (some 31) := rfl
theorem mln_12 (h : ax_Hp) (s : mS) : ax_len (mH h s) (some 31) 3 = some (Int32.ofInt 3840) := by
  unfold ax_len
  rw [pl_arr (es := arL 3840 (s.2.2.1 12)) rfl, Option.map_some, arL_len]
  rfl
theorem mld_12 (h : ax_Hp) (s : mS) (i : Int) (h0 : 0 ≤ i) (h1 : i < 3840) : ax_ldi (mH h s) (some 31) 3 (Int32.ofInt i) = some (Int32.ofInt (s.2.2.1 12 i.toNat)) := za_ld (n := 3840) rfl h0 h1 (by decide)
theorem mst_12 (h : ax_Hp) (s : mS) (i v : Int) (h0 : 0 ≤ i) (h1 : i < 3840) : ax_st (mH h s) (some 31) 3 (Int32.ofInt i) (ax_I (Int32.ofInt v)) = some (mH h (mU s 12 i v)) := (za_st (n := 3840) rfl h0 h1 (by decide)).trans (congrArg some (mH_set h s (mU s 12 i v) 31 _ (by decide) (congrArg (fun f => some (Sum.inr (3, arL 3840 f))) (mU_at s 12 i v)) (Or.inr rfl) (mA_U s 12 i v 31 rfl)))
theorem mstc_12 (h : ax_Hp) (s : mS) (i v : Int) (h0 : 0 ≤ i) (h1 : i < 3840) (h2 : 0 ≤ v) (h3 : v < 65536) : ax_stc (mH h s) (some 31) 3 (Int32.ofInt i) (Int32.ofInt v) = some (mH h (mU s 12 i v)) := by
  unfold ax_stc
  rw [zi_nc h2 h3, mst_12 h s i v h0 h1]
theorem mgr_13 (h : ax_Hp) (s : mS) : ax_gr (mH h s) (some 24) 9 13 = some (some 32) := rfl
theorem mln_13 (h : ax_Hp) (s : mS) : ax_len (mH h s) (some 32) 1 = some (Int32.ofInt 24) := by
  unfold ax_len
  rw [pl_arr (es := arL 24 (s.2.2.1 13)) rfl, Option.map_some, arL_len]
  rfl
theorem mld_13 (h : ax_Hp) (s : mS) (i : Int) (h0 : 0 ≤ i) (h1 : i < 24) : ax_ldi (mH h s) (some 32) 1 (Int32.ofInt i) = some (Int32.ofInt (s.2.2.1 13 i.toNat)) := za_ld (n := 24) rfl h0 h1 (by decide)
theorem mst_13 (h : ax_Hp) (s : mS) (i v : Int) (h0 : 0 ≤ i) (h1 : i < 24) : ax_st (mH h s) (some 32) 1 (Int32.ofInt i) (ax_I (Int32.ofInt v)) = some (mH h (mU s 13 i v)) := (za_st (n := 24) rfl h0 h1 (by decide)).trans (congrArg some (mH_set h s (mU s 13 i v) 32 _ (by decide) (congrArg (fun f => some (Sum.inr (1, arL 24 f))) (mU_at s 13 i v)) (Or.inr rfl) (mA_U s 13 i v 32 rfl)))
theorem mgr_14 (h : ax_Hp) (s : mS) : ax_gr (mH h s) (some 24) 9 14 = some (some 33) := rfl
theorem mln_14 (h : ax_Hp) (s : mS) : ax_len (mH h s) (some 33) 3 = some (Int32.ofInt 320) := by
  unfold ax_len
  rw [pl_arr (es := arL 320 (s.2.2.1 14)) rfl, Option.map_some, arL_len]
  rfl
theorem mld_14 (h : ax_Hp) (s : mS) (i : Int) (h0 : 0 ≤ i) (h1 : i < 320) : ax_ldi (mH h s) (some 33) 3 (Int32.ofInt i) = some (Int32.ofInt (s.2.2.1 14 i.toNat)) := za_ld (n := 320) rfl h0 h1 (by decide)
theorem mst_14 (h : ax_Hp) (s : mS) (i v : Int) (h0 : 0 ≤ i) (h1 : i < 320) : ax_st (mH h s) (some 33) 3 (Int32.ofInt i) (ax_I (Int32.ofInt v)) = some (mH h (mU s 14 i v)) := (za_st (n := 320) rfl h0 h1 (by decide)).trans (congrArg some (mH_set h s (mU s 14 i v) 33 _ (by decide) (congrArg (fun f => some (Sum.inr (3, arL 320 f))) (mU_at s 14 i v)) (Or.inr rfl) (mA_U s 14 i v 33 rfl)))
theorem mstc_14 (h : ax_Hp) (s : mS) (i v : Int) (h0 : 0 ≤ i) (h1 : i < 320) (h2 : 0 ≤ v) (h3 : v < 65536) : ax_stc (mH h s) (some 33) 3 (Int32.ofInt i) (Int32.ofInt v) = some (mH h (mU s 14 i v)) := by
  unfold ax_stc
  rw [zi_nc h2 h3, mst_14 h s i v h0 h1]
theorem mgr_15 (h : ax_Hp) (s : mS) : ax_gr (mH h s) (some 24) 9 15 = some (some 34) := rfl
theorem mln_15 (h : ax_Hp) (s : mS) : ax_len (mH h s) (some 34) 1 = some (Int32.ofInt 2) := by
  unfold ax_len
  rw [pl_arr (es := arL 2 (s.2.2.1 15)) rfl, Option.map_some, arL_len]
  rfl
theorem mld_15 (h : ax_Hp) (s : mS) (i : Int) (h0 : 0 ≤ i) (h1 : i < 2) : ax_ldi (mH h s) (some 34) 1 (Int32.ofInt i) = some (Int32.ofInt (s.2.2.1 15 i.toNat)) := za_ld (n := 2) rfl h0 h1 (by decide)
theorem mst_15 (h : ax_Hp) (s : mS) (i v : Int) (h0 : 0 ≤ i) (h1 : i < 2) : ax_st (mH h s) (some 34) 1 (Int32.ofInt i) (ax_I (Int32.ofInt v)) = some (mH h (mU s 15 i v)) := (za_st (n := 2) rfl h0 h1 (by decide)).trans (congrArg some (mH_set h s (mU s 15 i v) 34 _ (by decide) (congrArg (fun f => some (Sum.inr (1, arL 2 f))) (mU_at s 15 i v)) (Or.inr rfl) (mA_U s 15 i v 34 rfl)))
theorem mgr_16 (h : ax_Hp) (s : mS) : ax_gr (mH h s) (some 24) 9 16 = some (some 35) := rfl
theorem mln_16 (h : ax_Hp) (s : mS) : ax_len (mH h s) (some 35) 1 = some (Int32.ofInt 2) := by
  unfold ax_len
  rw [pl_arr (es := arL 2 (s.2.2.1 16)) rfl, Option.map_some, arL_len]
  rfl
theorem mld_16 (h : ax_Hp) (s : mS) (i : Int) (h0 : 0 ≤ i) (h1 : i < 2) : ax_ldi (mH h s) (some 35) 1 (Int32.ofInt i) = some (Int32.ofInt (s.2.2.1 16 i.toNat)) := za_ld (n := 2) rfl h0 h1 (by decide)
theorem mst_16 (h : ax_Hp) (s : mS) (i v : Int) (h0 : 0 ≤ i) (h1 : i < 2) : ax_st (mH h s) (some 35) 1 (Int32.ofInt i) (ax_I (Int32.ofInt v)) = some (mH h (mU s 16 i v)) := (za_st (n := 2) rfl h0 h1 (by decide)).trans (congrArg some (mH_set h s (mU s 16 i v) 35 _ (by decide) (congrArg (fun f => some (Sum.inr (1, arL 2 f))) (mU_at s 16 i v)) (Or.inr rfl) (mA_U s 16 i v 35 rfl)))
theorem mgr_17 (h : ax_Hp) (s : mS) : ax_gr (mH h s) (some 24) 9 17 = some (some 36) := rfl
theorem mln_17 (h : ax_Hp) (s : mS) : ax_len (mH h s) (some 36) 3 = some (Int32.ofInt 240) := by
  unfold ax_len
  rw [pl_arr (es := arL 240 (s.2.2.1 17)) rfl, Option.map_some, arL_len]
  rfl
theorem mld_17 (h : ax_Hp) (s : mS) (i : Int) (h0 : 0 ≤ i) (h1 : i < 240) : ax_ldi (mH h s) (some 36) 3 (Int32.ofInt i) = some (Int32.ofInt (s.2.2.1 17 i.toNat)) := za_ld (n := 240) rfl h0 h1 (by decide)
theorem mst_17 (h : ax_Hp) (s : mS) (i v : Int) (h0 : 0 ≤ i) (h1 : i < 240) : ax_st (mH h s) (some 36) 3 (Int32.ofInt i) (ax_I (Int32.ofInt v)) = some (mH h (mU s 17 i v)) := (za_st (n := 240) rfl h0 h1 (by decide)).trans (congrArg some (mH_set h s (mU s 17 i v) 36 _ (by decide) (congrArg (fun f => some (Sum.inr (3, arL 240 f))) (mU_at s 17 i v)) (Or.inr rfl) (mA_U s 17 i v 36 rfl)))
theorem mstc_17 (h : ax_Hp) (s : mS) (i v : Int) (h0 : 0 ≤ i) (h1 : i < 240) (h2 : 0 ≤ v) (h3 : v < 65536) : ax_stc (mH h s) (some 36) 3 (Int32.ofInt i) (Int32.ofInt v) = some (mH h (mU s 17 i v)) := by
  unfold ax_stc
  rw [zi_nc h2 h3, mst_17 h s i v h0 h1]
theorem mgr_18 (h : ax_Hp) (s : mS) : ax_gr (mH h s) (some 24) 9 18 = some (some 37) := rfl
theorem mln_18 (h : ax_Hp) (s : mS) : ax_len (mH h s) (some 37) 1 = some (Int32.ofInt 240) := by
  unfold ax_len
  rw [pl_arr (es := arL 240 (s.2.2.1 18)) rfl, Option.map_some, arL_len]
  rfl
theorem mld_18 (h : ax_Hp) (s : mS) (i : Int) (h0 : 0 ≤ i) (h1 : i < 240) : ax_ldi (mH h s) (some 37) 1 (Int32.ofInt i) = some (Int32.ofInt (s.2.2.1 18 i.toNat)) := za_ld (n := 240) rfl h0 h1 (by decide)
theorem mst_18 (h : ax_Hp) (s : mS) (i v : Int) (h0 : 0 ≤ i) (h1 : i < 240) : ax_st (mH h s) (some 37) 1 (Int32.ofInt i) (ax_I (Int32.ofInt v)) = some (mH h (mU s 18 i v)) := (za_st (n := 240) rfl h0 h1 (by decide)).trans (congrArg some (mH_set h s (mU s 18 i v) 37 _ (by decide) (congrArg (fun f => some (Sum.inr (1, arL 240 f))) (mU_at s 18 i v)) (Or.inr rfl) (mA_U s 18 i v 37 rfl)))
theorem mgr_19 (h : ax_Hp) (s : mS) : ax_gr (mH h s) (some 24) 9 19 = some (some 38) := rfl
theorem mln_19 (h : ax_Hp) (s : mS) : ax_len (mH h s) (some 38) 1 = some (Int32.ofInt 240) := by
  unfold ax_len
  rw [pl_arr (es := arL 240 (s.2.2.1 19)) rfl, Option.map_some, arL_len]
  rfl
theorem mld_19 (h : ax_Hp) (s : mS) (i : Int) (h0 : 0 ≤ i) (h1 : i < 240) : ax_ldi (mH h s) (some 38) 1 (Int32.ofInt i) = some (Int32.ofInt (s.2.2.1 19 i.toNat)) := za_ld (n := 240) rfl h0 h1 (by decide)
theorem mst_19 (h : ax_Hp) (s : mS) (i v : Int) (h0 : 0 ≤ i) (h1 : i < 240) : ax_st (mH h s) (some 38) 1 (Int32.ofInt i) (ax_I (Int32.ofInt v)) = some (mH h (mU s 19 i v)) := (za_st (n := 240) rfl h0 h1 (by decide)).trans (congrArg some (mH_set h s (mU s 19 i v) 38 _ (by decide) (congrArg (fun f => some (Sum.inr (1, arL 240 f))) (mU_at s 19 i v)) (Or.inr rfl) (mA_U s 19 i v 38 rfl)))
theorem mgr_20 (h : ax_Hp) (s : mS) : ax_gr (mH h s) (some 24) 9 20 = some (some 39) := rfl
theorem mln_20 (h : ax_Hp) (s : mS) : ax_len (mH h s) (some 39) 1 = some (Int32.ofInt 240) := by
  unfold ax_len
  rw [pl_arr (es := arL 240 (s.2.2.1 20)) rfl, Option.map_some, arL_len]
  rfl
theorem mld_20 (h : ax_Hp) (s : mS) (i : Int) (h0 : 0 ≤ i) (h1 : i < 240) : ax_ldi (mH h s) (some 39) 1 (Int32.ofInt i) = some (Int32.ofInt (s.2.2.1 20 i.toNat)) := za_ld (n := 240) rfl h0 h1 (by decide)
theorem mst_20 (h : ax_Hp) (s : mS) (i v : Int) (h0 : 0 ≤ i) (h1 : i < 240) : ax_st (mH h s) (some 39) 1 (Int32.ofInt i) (ax_I (Int32.ofInt v)) = some (mH h (mU s 20 i v)) := (za_st (n := 240) rfl h0 h1 (by decide)).trans (congrArg some (mH_set h s (mU s 20 i v) 39 _ (by decide) (congrArg (fun f => some (Sum.inr (1, arL 240 f))) (mU_at s 20 i v)) (Or.inr rfl) (mA_U s 20 i v 39 rfl)))
theorem mgr_21 (h : ax_Hp) (s : mS) : ax_gr (mH h s) (some 24) 9 21 = some (some 40) := rfl
theorem mln_21 (h : ax_Hp) (s : mS) : ax_len (mH h s) (some 40) 3 = some (Int32.ofInt 240) := by
  unfold ax_len
  rw [pl_arr (es := arL 240 (s.2.2.1 21)) rfl, Option.map_some, arL_len]
  rfl
theorem mld_21 (h : ax_Hp) (s : mS) (i : Int) (h0 : 0 ≤ i) (h1 : i < 240) : ax_ldi (mH h s) (some 40) 3 (Int32.ofInt i) = some (Int32.ofInt (s.2.2.1 21 i.toNat)) := za_ld (n := 240) rfl h0 h1 (by decide)
theorem mst_21 (h : ax_Hp) (s : mS) (i v : Int) (h0 : 0 ≤ i) (h1 : i < 240) : ax_st (mH h s) (some 40) 3 (Int32.ofInt i) (ax_I (Int32.ofInt v)) = some (mH h (mU s 21 i v)) := (za_st (n := 240) rfl h0 h1 (by decide)).trans (congrArg some (mH_set h s (mU s 21 i v) 40 _ (by decide) (congrArg (fun f => some (Sum.inr (3, arL 240 f))) (mU_at s 21 i v)) (Or.inr rfl) (mA_U s 21 i v 40 rfl)))
theorem mstc_21 (h : ax_Hp) (s : mS) (i v : Int) (h0 : 0 ≤ i) (h1 : i < 240) (h2 : 0 ≤ v) (h3 : v < 65536) : ax_stc (mH h s) (some 40) 3 (Int32.ofInt i) (Int32.ofInt v) = some (mH h (mU s 21 i v)) := by
  unfold ax_stc
  rw [zi_nc h2 h3, mst_21 h s i v h0 h1]
theorem mgr_22 (h : ax_Hp) (s : mS) : ax_gr (mH h s) (some 24) 9 22 = some (some 41) := rfl
theorem mln_22 (h : ax_Hp) (s : mS) : ax_len (mH h s) (some 41) 1 = some (Int32.ofInt 240) := by
  unfold ax_len
  rw [pl_arr (es := arL 240 (s.2.2.1 22)) rfl, Option.map_some, arL_len]
  rfl
theorem mld_22 (h : ax_Hp) (s : mS) (i : Int) (h0 : 0 ≤ i) (h1 : i < 240) : ax_ldi (mH h s) (some 41) 1 (Int32.ofInt i) = some (Int32.ofInt (s.2.2.1 22 i.toNat)) := za_ld (n := 240) rfl h0 h1 (by decide)
theorem mst_22 (h : ax_Hp) (s : mS) (i v : Int) (h0 : 0 ≤ i) (h1 : i < 240) : ax_st (mH h s) (some 41) 1 (Int32.ofInt i) (ax_I (Int32.ofInt v)) = some (mH h (mU s 22 i v)) := (za_st (n := 240) rfl h0 h1 (by decide)).trans (congrArg some (mH_set h s (mU s 22 i v) 41 _ (by decide) (congrArg (fun f => some (Sum.inr (1, arL 240 f))) (mU_at s 22 i v)) (Or.inr rfl) (mA_U s 22 i v 41 rfl)))
theorem mgr_23 (h : ax_Hp) (s : mS) : ax_gr (mH h s) (some 24) 9 23 = some (some 42) := rfl
theorem mln_23 (h : ax_Hp) (s : mS) : ax_len (mH h s) (some 42) 1 = some (Int32.ofInt 240) := by
  unfold ax_len
  rw [pl_arr (es := arL 240 (s.2.2.1 23)) rfl, Option.map_some, arL_len]
  rfl
theorem mld_23 (h : ax_Hp) (s : mS) (i : Int) (h0 : 0 ≤ i) (h1 : i < 240) : ax_ldi (mH h s) (some 42) 1 (Int32.ofInt i) = some (Int32.ofInt (s.2.2.1 23 i.toNat)) := za_ld (n := 240) rfl h0 h1 (by decide)
theorem mst_23 (h : ax_Hp) (s : mS) (i v : Int) (h0 : 0 ≤ i) (h1 : i < 240) : ax_st (mH h s) (some 42) 1 (Int32.ofInt i) (ax_I (Int32.ofInt v)) = some (mH h (mU s 23 i v)) := (za_st (n := 240) rfl h0 h1 (by decide)).trans (congrArg some (mH_set h s (mU s 23 i v) 42 _ (by decide) (congrArg (fun f => some (Sum.inr (1, arL 240 f))) (mU_at s 23 i v)) (Or.inr rfl) (mA_U s 23 i v 42 rfl)))
theorem mgr_24 (h : ax_Hp) (s : mS) : ax_gr (mH h s) (some 24) 9 24 = some (some 43) := rfl
theorem mln_24 (h : ax_Hp) (s : mS) : ax_len (mH h s) (some 43) 1 = some (Int32.ofInt 240) := by
  unfold ax_len
  rw [pl_arr (es := arL 240 (s.2.2.1 24)) rfl, Option.map_some, arL_len]
  rfl
theorem mld_24 (h : ax_Hp) (s : mS) (i : Int) (h0 : 0 ≤ i) (h1 : i < 240) : ax_ldi (mH h s) (some 43) 1 (Int32.ofInt i) = some (Int32.ofInt (s.2.2.1 24 i.toNat)) := za_ld (n := 240) rfl h0 h1 (by decide)
theorem mst_24 (h : ax_Hp) (s : mS) (i v : Int) (h0 : 0 ≤ i) (h1 : i < 240) : ax_st (mH h s) (some 43) 1 (Int32.ofInt i) (ax_I (Int32.ofInt v)) = some (mH h (mU s 24 i v)) := (za_st (n := 240) rfl h0 h1 (by decide)).trans (congrArg some (mH_set h s (mU s 24 i v) 43 _ (by decide) (congrArg (fun f => some (Sum.inr (1, arL 240 f))) (mU_at s 24 i v)) (Or.inr rfl) (mA_U s 24 i v 43 rfl)))
theorem mgr_25 (h : ax_Hp) (s : mS) : ax_gr (mH h s) (some 24) 9 25 = some (some 44) := rfl
theorem mln_25 (h : ax_Hp) (s : mS) : ax_len (mH h s) (some 44) 4 = some (Int32.ofInt 320) := by
  unfold ax_len
  rw [pl_arr (es := arL 320 (s.2.2.1 25)) rfl, Option.map_some, arL_len]
  rfl
theorem mld_25 (h : ax_Hp) (s : mS) (i : Int) (h0 : 0 ≤ i) (h1 : i < 320) : ax_ldi (mH h s) (some 44) 4 (Int32.ofInt i) = some (Int32.ofInt (s.2.2.1 25 i.toNat)) := za_ld (n := 320) rfl h0 h1 (by decide)
theorem mst_25 (h : ax_Hp) (s : mS) (i v : Int) (h0 : 0 ≤ i) (h1 : i < 320) : ax_st (mH h s) (some 44) 4 (Int32.ofInt i) (ax_I (Int32.ofInt v)) = some (mH h (mU s 25 i v)) := (za_st (n := 320) rfl h0 h1 (by decide)).trans (congrArg some (mH_set h s (mU s 25 i v) 44 _ (by decide) (congrArg (fun f => some (Sum.inr (4, arL 320 f))) (mU_at s 25 i v)) (Or.inr rfl) (mA_U s 25 i v 44 rfl)))
theorem mstz_25 (h : ax_Hp) (s : mS) (i v : Int) (h0 : 0 ≤ i) (h1 : i < 320) (h2 : v = 0 ∨ v = 1) : ax_stz (mH h s) (some 44) 4 (Int32.ofInt i) (Int32.ofInt v) = some (mH h (mU s 25 i v)) := by
  unfold ax_stz
  rw [show Int32.ofInt v &&& 1 = Int32.ofInt v from by rcases h2 with rfl | rfl <;> rfl, mst_25 h s i v h0 h1]
theorem mgr_27 (h : ax_Hp) (s : mS) : ax_gr (mH h s) (some 24) 9 27 = some (some 45) := rfl
theorem mln_27 (h : ax_Hp) (s : mS) : ax_len (mH h s) (some 45) 1 = some (Int32.ofInt 8) := by
  unfold ax_len
  rw [pl_arr (es := arL 8 (s.2.2.1 27)) rfl, Option.map_some, arL_len]
  rfl
theorem mld_27 (h : ax_Hp) (s : mS) (i : Int) (h0 : 0 ≤ i) (h1 : i < 8) : ax_ldi (mH h s) (some 45) 1 (Int32.ofInt i) = some (Int32.ofInt (s.2.2.1 27 i.toNat)) := za_ld (n := 8) rfl h0 h1 (by decide)
theorem mst_27 (h : ax_Hp) (s : mS) (i v : Int) (h0 : 0 ≤ i) (h1 : i < 8) : ax_st (mH h s) (some 45) 1 (Int32.ofInt i) (ax_I (Int32.ofInt v)) = some (mH h (mU s 27 i v)) := (za_st (n := 8) rfl h0 h1 (by decide)).trans (congrArg some (mH_set h s (mU s 27 i v) 45 _ (by decide) (congrArg (fun f => some (Sum.inr (1, arL 8 f))) (mU_at s 27 i v)) (Or.inr rfl) (mA_U s 27 i v 45 rfl)))
theorem mgr_28 (h : ax_Hp) (s : mS) : ax_gr (mH h s) (some 24) 9 28 = some (some 46) := rfl
theorem mln_28 (h : ax_Hp) (s : mS) : ax_len (mH h s) (some 46) 1 = some (Int32.ofInt 8) := by
  unfold ax_len
  rw [pl_arr (es := arL 8 (s.2.2.1 28)) rfl, Option.map_some, arL_len]
  rfl
theorem mld_28 (h : ax_Hp) (s : mS) (i : Int) (h0 : 0 ≤ i) (h1 : i < 8) : ax_ldi (mH h s) (some 46) 1 (Int32.ofInt i) = some (Int32.ofInt (s.2.2.1 28 i.toNat)) := za_ld (n := 8) rfl h0 h1 (by decide)
theorem mst_28 (h : ax_Hp) (s : mS) (i v : Int) (h0 : 0 ≤ i) (h1 : i < 8) : ax_st (mH h s) (some 46) 1 (Int32.ofInt i) (ax_I (Int32.ofInt v)) = some (mH h (mU s 28 i v)) := (za_st (n := 8) rfl h0 h1 (by decide)).trans (congrArg some (mH_set h s (mU s 28 i v) 46 _ (by decide) (congrArg (fun f => some (Sum.inr (1, arL 8 f))) (mU_at s 28 i v)) (Or.inr rfl) (mA_U s 28 i v 46 rfl)))
theorem mgr_32 (h : ax_Hp) (s : mS) : ax_gr (mH h s) (some 24) 9 32 = some (some 47) := rfl
theorem mln_32 (h : ax_Hp) (s : mS) : ax_len (mH h s) (some 47) 1 = some (Int32.ofInt 10) := by
  unfold ax_len
  rw [pl_arr (es := arL 10 (s.2.2.1 32)) rfl, Option.map_some, arL_len]
  rfl
theorem mld_32 (h : ax_Hp) (s : mS) (i : Int) (h0 : 0 ≤ i) (h1 : i < 10) : ax_ldi (mH h s) (some 47) 1 (Int32.ofInt i) = some (Int32.ofInt (s.2.2.1 32 i.toNat)) := za_ld (n := 10) rfl h0 h1 (by decide)
theorem mst_32 (h : ax_Hp) (s : mS) (i v : Int) (h0 : 0 ≤ i) (h1 : i < 10) : ax_st (mH h s) (some 47) 1 (Int32.ofInt i) (ax_I (Int32.ofInt v)) = some (mH h (mU s 32 i v)) := (za_st (n := 10) rfl h0 h1 (by decide)).trans (congrArg some (mH_set h s (mU s 32 i v) 47 _ (by decide) (congrArg (fun f => some (Sum.inr (1, arL 10 f))) (mU_at s 32 i v)) (Or.inr rfl) (mA_U s 32 i v 47 rfl)))
theorem mgr_33 (h : ax_Hp) (s : mS) : ax_gr (mH h s) (some 24) 9 33 = some (some 48) := rfl
theorem mln_33 (h : ax_Hp) (s : mS) : ax_len (mH h s) (some 48) 1 = some (Int32.ofInt 10) := by
  unfold ax_len
  rw [pl_arr (es := arL 10 (s.2.2.1 33)) rfl, Option.map_some, arL_len]
  rfl
theorem mld_33 (h : ax_Hp) (s : mS) (i : Int) (h0 : 0 ≤ i) (h1 : i < 10) : ax_ldi (mH h s) (some 48) 1 (Int32.ofInt i) = some (Int32.ofInt (s.2.2.1 33 i.toNat)) := za_ld (n := 10) rfl h0 h1 (by decide)
theorem mst_33 (h : ax_Hp) (s : mS) (i v : Int) (h0 : 0 ≤ i) (h1 : i < 10) : ax_st (mH h s) (some 48) 1 (Int32.ofInt i) (ax_I (Int32.ofInt v)) = some (mH h (mU s 33 i v)) := (za_st (n := 10) rfl h0 h1 (by decide)).trans (congrArg some (mH_set h s (mU s 33 i v) 48 _ (by decide) (congrArg (fun f => some (Sum.inr (1, arL 10 f))) (mU_at s 33 i v)) (Or.inr rfl) (mA_U s 33 i v 48 rfl)))
theorem mgr_34 (h : ax_Hp) (s : mS) : ax_gr (mH h s) (some 24) 9 34 = some (some 49) := rfl
theorem mln_34 (h : ax_Hp) (s : mS) : ax_len (mH h s) (some 49) 1 = some (Int32.ofInt 10) := by
  unfold ax_len
  rw [pl_arr (es := arL 10 (s.2.2.1 34)) rfl, Option.map_some, arL_len]
  rfl
theorem mld_34 (h : ax_Hp) (s : mS) (i : Int) (h0 : 0 ≤ i) (h1 : i < 10) : ax_ldi (mH h s) (some 49) 1 (Int32.ofInt i) = some (Int32.ofInt (s.2.2.1 34 i.toNat)) := za_ld (n := 10) rfl h0 h1 (by decide)
theorem mst_34 (h : ax_Hp) (s : mS) (i v : Int) (h0 : 0 ≤ i) (h1 : i < 10) : ax_st (mH h s) (some 49) 1 (Int32.ofInt i) (ax_I (Int32.ofInt v)) = some (mH h (mU s 34 i v)) := (za_st (n := 10) rfl h0 h1 (by decide)).trans (congrArg some (mH_set h s (mU s 34 i v) 49 _ (by decide) (congrArg (fun f => some (Sum.inr (1, arL 10 f))) (mU_at s 34 i v)) (Or.inr rfl) (mA_U s 34 i v 49 rfl)))
theorem mgr_35 (h : ax_Hp) (s : mS) : ax_gr (mH h s) (some 24) 9 35 = some (some 50) := rfl
theorem mln_35 (h : ax_Hp) (s : mS) : ax_len (mH h s) (some 50) 1 = some (Int32.ofInt 10) := by
  unfold ax_len
  rw [pl_arr (es := arL 10 (s.2.2.1 35)) rfl, Option.map_some, arL_len]
  rfl
theorem mld_35 (h : ax_Hp) (s : mS) (i : Int) (h0 : 0 ≤ i) (h1 : i < 10) : ax_ldi (mH h s) (some 50) 1 (Int32.ofInt i) = some (Int32.ofInt (s.2.2.1 35 i.toNat)) := za_ld (n := 10) rfl h0 h1 (by decide)
theorem mst_35 (h : ax_Hp) (s : mS) (i v : Int) (h0 : 0 ≤ i) (h1 : i < 10) : ax_st (mH h s) (some 50) 1 (Int32.ofInt i) (ax_I (Int32.ofInt v)) = some (mH h (mU s 35 i v)) := (za_st (n := 10) rfl h0 h1 (by decide)).trans (congrArg some (mH_set h s (mU s 35 i v) 50 _ (by decide) (congrArg (fun f => some (Sum.inr (1, arL 10 f))) (mU_at s 35 i v)) (Or.inr rfl) (mA_U s 35 i v 50 rfl)))
theorem mgr_36 (h : ax_Hp) (s : mS) : ax_gr (mH h s) (some 24) 9 36 = some (some 51) := rfl
theorem mln_36 (h : ax_Hp) (s : mS) : ax_len (mH h s) (some 51) 1 = some (Int32.ofInt 10) := by
  unfold ax_len
  rw [pl_arr (es := arL 10 (s.2.2.1 36)) rfl, Option.map_some, arL_len]
  rfl
theorem mld_36 (h : ax_Hp) (s : mS) (i : Int) (h0 : 0 ≤ i) (h1 : i < 10) : ax_ldi (mH h s) (some 51) 1 (Int32.ofInt i) = some (Int32.ofInt (s.2.2.1 36 i.toNat)) := za_ld (n := 10) rfl h0 h1 (by decide)
theorem mst_36 (h : ax_Hp) (s : mS) (i v : Int) (h0 : 0 ≤ i) (h1 : i < 10) : ax_st (mH h s) (some 51) 1 (Int32.ofInt i) (ax_I (Int32.ofInt v)) = some (mH h (mU s 36 i v)) := (za_st (n := 10) rfl h0 h1 (by decide)).trans (congrArg some (mH_set h s (mU s 36 i v) 51 _ (by decide) (congrArg (fun f => some (Sum.inr (1, arL 10 f))) (mU_at s 36 i v)) (Or.inr rfl) (mA_U s 36 i v 51 rfl)))
theorem mgr_41 (h : ax_Hp) (s : mS) : ax_gr (mH h s) (some 24) 9 41 = some (some 52) := rfl
theorem mln_41 (h : ax_Hp) (s : mS) : ax_len (mH h s) (some 52) 1 = some (Int32.ofInt 100) := by
  unfold ax_len
  rw [pl_arr (es := arL 100 (s.2.2.1 41)) rfl, Option.map_some, arL_len]
  rfl
theorem mld_41 (h : ax_Hp) (s : mS) (i : Int) (h0 : 0 ≤ i) (h1 : i < 100) : ax_ldi (mH h s) (some 52) 1 (Int32.ofInt i) = some (Int32.ofInt (s.2.2.1 41 i.toNat)) := za_ld (n := 100) rfl h0 h1 (by decide)
theorem mst_41 (h : ax_Hp) (s : mS) (i v : Int) (h0 : 0 ≤ i) (h1 : i < 100) : ax_st (mH h s) (some 52) 1 (Int32.ofInt i) (ax_I (Int32.ofInt v)) = some (mH h (mU s 41 i v)) := (za_st (n := 100) rfl h0 h1 (by decide)).trans (congrArg some (mH_set h s (mU s 41 i v) 52 _ (by decide) (congrArg (fun f => some (Sum.inr (1, arL 100 f))) (mU_at s 41 i v)) (Or.inr rfl) (mA_U s 41 i v 52 rfl)))
theorem mgr_42 (h : ax_Hp) (s : mS) : ax_gr (mH h s) (some 24) 9 42 = some (some 53) := rfl
theorem mld_42 (h : ax_Hp) (s : mS) (i : Int) (h0 : 0 ≤ i) (h1 : i < 240) : ax_ldl (mH h s) (some 53) 2 (Int32.ofInt i) = some (s.2.2.2 i.toNat) := za_ldl (n := 240) rfl h0 h1 (by decide)
theorem mst_42 (h : ax_Hp) (s : mS) (i : Int) (v : Int64) (h0 : 0 ≤ i) (h1 : i < 240) : ax_st (mH h s) (some 53) 2 (Int32.ofInt i) (ax_L v) = some (mH h (mW s i v)) := (za_stl (n := 240) rfl h0 h1 (by decide)).trans (congrArg some (mH_set h s (mW s i v) 53 _ (by decide) rfl (Or.inr rfl) (mA_W s i v)))
theorem mgr_43 (h : ax_Hp) (s : mS) : ax_gr (mH h s) (some 24) 9 43 = some (some 54) := rfl
theorem mln_43 (h : ax_Hp) (s : mS) : ax_len (mH h s) (some 54) 1 = some (Int32.ofInt 10) := by
  unfold ax_len
  rw [pl_arr (es := arL 10 (s.2.2.1 43)) rfl, Option.map_some, arL_len]
  rfl
theorem mld_43 (h : ax_Hp) (s : mS) (i : Int) (h0 : 0 ≤ i) (h1 : i < 10) : ax_ldi (mH h s) (some 54) 1 (Int32.ofInt i) = some (Int32.ofInt (s.2.2.1 43 i.toNat)) := za_ld (n := 10) rfl h0 h1 (by decide)
theorem mst_43 (h : ax_Hp) (s : mS) (i v : Int) (h0 : 0 ≤ i) (h1 : i < 10) : ax_st (mH h s) (some 54) 1 (Int32.ofInt i) (ax_I (Int32.ofInt v)) = some (mH h (mU s 43 i v)) := (za_st (n := 10) rfl h0 h1 (by decide)).trans (congrArg some (mH_set h s (mU s 43 i v) 54 _ (by decide) (congrArg (fun f => some (Sum.inr (1, arL 10 f))) (mU_at s 43 i v)) (Or.inr rfl) (mA_U s 43 i v 54 rfl)))
theorem mgr_44 (h : ax_Hp) (s : mS) : ax_gr (mH h s) (some 24) 9 44 = some (some 55) := rfl
theorem mln_44 (h : ax_Hp) (s : mS) : ax_len (mH h s) (some 55) 1 = some (Int32.ofInt 10) := by
  unfold ax_len
  rw [pl_arr (es := arL 10 (s.2.2.1 44)) rfl, Option.map_some, arL_len]
  rfl
theorem mld_44 (h : ax_Hp) (s : mS) (i : Int) (h0 : 0 ≤ i) (h1 : i < 10) : ax_ldi (mH h s) (some 55) 1 (Int32.ofInt i) = some (Int32.ofInt (s.2.2.1 44 i.toNat)) := za_ld (n := 10) rfl h0 h1 (by decide)
theorem mst_44 (h : ax_Hp) (s : mS) (i v : Int) (h0 : 0 ≤ i) (h1 : i < 10) : ax_st (mH h s) (some 55) 1 (Int32.ofInt i) (ax_I (Int32.ofInt v)) = some (mH h (mU s 44 i v)) := (za_st (n := 10) rfl h0 h1 (by decide)).trans (congrArg some (mH_set h s (mU s 44 i v) 55 _ (by decide) (congrArg (fun f => some (Sum.inr (1, arL 10 f))) (mU_at s 44 i v)) (Or.inr rfl) (mA_U s 44 i v 55 rfl)))
theorem mgr_45 (h : ax_Hp) (s : mS) : ax_gr (mH h s) (some 24) 9 45 = some (some 56) := rfl
theorem mln_45 (h : ax_Hp) (s : mS) : ax_len (mH h s) (some 56) 1 = some (Int32.ofInt 10) := by
  unfold ax_len
  rw [pl_arr (es := arL 10 (s.2.2.1 45)) rfl, Option.map_some, arL_len]
  rfl
theorem mld_45 (h : ax_Hp) (s : mS) (i : Int) (h0 : 0 ≤ i) (h1 : i < 10) : ax_ldi (mH h s) (some 56) 1 (Int32.ofInt i) = some (Int32.ofInt (s.2.2.1 45 i.toNat)) := za_ld (n := 10) rfl h0 h1 (by decide)
theorem mst_45 (h : ax_Hp) (s : mS) (i v : Int) (h0 : 0 ≤ i) (h1 : i < 10) : ax_st (mH h s) (some 56) 1 (Int32.ofInt i) (ax_I (Int32.ofInt v)) = some (mH h (mU s 45 i v)) := (za_st (n := 10) rfl h0 h1 (by decide)).trans (congrArg some (mH_set h s (mU s 45 i v) 56 _ (by decide) (congrArg (fun f => some (Sum.inr (1, arL 10 f))) (mU_at s 45 i v)) (Or.inr rfl) (mA_U s 45 i v 56 rfl)))
theorem mgr_46 (h : ax_Hp) (s : mS) : ax_gr (mH h s) (some 24) 9 46 = some (some 57) := rfl
theorem mln_46 (h : ax_Hp) (s : mS) : ax_len (mH h s) (some 57) 1 = some (Int32.ofInt 10) := by
  unfold ax_len
  rw [pl_arr (es := arL 10 (s.2.2.1 46)) rfl, Option.map_some, arL_len]
  rfl
theorem mld_46 (h : ax_Hp) (s : mS) (i : Int) (h0 : 0 ≤ i) (h1 : i < 10) : ax_ldi (mH h s) (some 57) 1 (Int32.ofInt i) = some (Int32.ofInt (s.2.2.1 46 i.toNat)) := za_ld (n := 10) rfl h0 h1 (by decide)
theorem mst_46 (h : ax_Hp) (s : mS) (i v : Int) (h0 : 0 ≤ i) (h1 : i < 10) : ax_st (mH h s) (some 57) 1 (Int32.ofInt i) (ax_I (Int32.ofInt v)) = some (mH h (mU s 46 i v)) := (za_st (n := 10) rfl h0 h1 (by decide)).trans (congrArg some (mH_set h s (mU s 46 i v) 57 _ (by decide) (congrArg (fun f => some (Sum.inr (1, arL 10 f))) (mU_at s 46 i v)) (Or.inr rfl) (mA_U s 46 i v 57 rfl)))
theorem mgr_47 (h : ax_Hp) (s : mS) : ax_gr (mH h s) (some 24) 9 47 = some (some 58) := rfl
theorem mln_47 (h : ax_Hp) (s : mS) : ax_len (mH h s) (some 58) 1 = some (Int32.ofInt 10) := by
  unfold ax_len
  rw [pl_arr (es := arL 10 (s.2.2.1 47)) rfl, Option.map_some, arL_len]
  rfl
theorem mld_47 (h : ax_Hp) (s : mS) (i : Int) (h0 : 0 ≤ i) (h1 : i < 10) : ax_ldi (mH h s) (some 58) 1 (Int32.ofInt i) = some (Int32.ofInt (s.2.2.1 47 i.toNat)) := za_ld (n := 10) rfl h0 h1 (by decide)
theorem mst_47 (h : ax_Hp) (s : mS) (i v : Int) (h0 : 0 ≤ i) (h1 : i < 10) : ax_st (mH h s) (some 58) 1 (Int32.ofInt i) (ax_I (Int32.ofInt v)) = some (mH h (mU s 47 i v)) := (za_st (n := 10) rfl h0 h1 (by decide)).trans (congrArg some (mH_set h s (mU s 47 i v) 58 _ (by decide) (congrArg (fun f => some (Sum.inr (1, arL 10 f))) (mU_at s 47 i v)) (Or.inr rfl) (mA_U s 47 i v 58 rfl)))
