theorem Sr_kB {n : Nat} {g : ax_Hp} {K : Nat → Nat} {sr sc vr : Nat} {c : Int → Int} {s : cS} {dep : Int} (h : kOk K) (X : srX g K sr sc vr) (V : cvX g K c) (q0 : 0 ≤ s.1) (q1 : s.1 ≤ K 7) (d0 : 0 ≤ dep) (d1 : dep ≤ 6) (hk : c s.1 = 66) : ax_F (n + 2) 28 [ax_A (some sr), ax_I (Int32.ofInt dep)] (cH g K s) = some (.inl (some (ax_I (Int32.ofInt 1))), cH g K (cAt s (s.1 + 1))) := by
  have k7 := h.2.1
  have pb := pk_b V q0
  have ep : pk K c s.1 = 66 := by rw [pb.2.2.1 (by omega)]; exact hk
  rw [SchemaReader_readTypeOfKind_F]
  unfold SchemaReader_readTypeOfKind_b
  rw [sr_gr0 X, Option.bind_some, cu_on, pl_ci (Cu_pk h V q0 (by omega)), ep]
  have ek : (Int32.ofInt 66).toInt = 66 := by decide
  simp only [ek, Int.reduceEq, ↓reduceIte]
  rw [sr_gr0 X, Option.bind_some, cu_on, pl_ci (Cu_take h V q0 (by omega) (by decide) (by decide)), if_pos hk, if_pos hk]
  exact za_rz (Or.inr rfl)
theorem Sr_kI {n : Nat} {g : ax_Hp} {K : Nat → Nat} {sr sc vr : Nat} {c : Int → Int} {s : cS} {dep : Int} (h : kOk K) (X : srX g K sr sc vr) (V : cvX g K c) (q0 : 0 ≤ s.1) (q1 : s.1 ≤ K 7) (d0 : 0 ≤ dep) (d1 : dep ≤ 6) (hk : c s.1 = 73) : ax_F (n + 2) 28 [ax_A (some sr), ax_I (Int32.ofInt dep)] (cH g K s) = some (.inl (some (ax_I (Int32.ofInt 1))), cH g K (cAt s (s.1 + 1))) := by
  have k7 := h.2.1
  have pb := pk_b V q0
  have ep : pk K c s.1 = 73 := by rw [pb.2.2.1 (by omega)]; exact hk
  rw [SchemaReader_readTypeOfKind_F]
  unfold SchemaReader_readTypeOfKind_b
  rw [sr_gr0 X, Option.bind_some, cu_on, pl_ci (Cu_pk h V q0 (by omega)), ep]
  have ek : (Int32.ofInt 73).toInt = 73 := by decide
  simp only [ek, Int.reduceEq, ↓reduceIte]
  rw [sr_gr0 X, Option.bind_some, cu_on, pl_ci (Cu_take h V q0 (by omega) (by decide) (by decide)), if_pos hk, if_pos hk]
  exact za_rz (Or.inr rfl)
theorem Sr_kL {n : Nat} {g : ax_Hp} {K : Nat → Nat} {sr sc vr : Nat} {c : Int → Int} {s : cS} {dep : Int} (h : kOk K) (X : srX g K sr sc vr) (V : cvX g K c) (q0 : 0 ≤ s.1) (q1 : s.1 ≤ K 7) (d0 : 0 ≤ dep) (d1 : dep ≤ 6) (hk : c s.1 = 76) : ax_F (n + 2) 28 [ax_A (some sr), ax_I (Int32.ofInt dep)] (cH g K s) = some (.inl (some (ax_I (Int32.ofInt 1))), cH g K (cAt s (s.1 + 1))) := by
  have k7 := h.2.1
  have pb := pk_b V q0
  have ep : pk K c s.1 = 76 := by rw [pb.2.2.1 (by omega)]; exact hk
  rw [SchemaReader_readTypeOfKind_F]
  unfold SchemaReader_readTypeOfKind_b
  rw [sr_gr0 X, Option.bind_some, cu_on, pl_ci (Cu_pk h V q0 (by omega)), ep]
  have ek : (Int32.ofInt 76).toInt = 76 := by decide
  simp only [ek, Int.reduceEq, ↓reduceIte]
  rw [sr_gr0 X, Option.bind_some, cu_on, pl_ci (Cu_take h V q0 (by omega) (by decide) (by decide)), if_pos hk, if_pos hk]
  exact za_rz (Or.inr rfl)
theorem Sr_kN {n : Nat} {g : ax_Hp} {K : Nat → Nat} {sr sc vr : Nat} {c : Int → Int} {s : cS} {dep : Int} (h : kOk K) (X : srX g K sr sc vr) (V : cvX g K c) (q0 : 0 ≤ s.1) (q1 : s.1 ≤ K 7) (d0 : 0 ≤ dep) (d1 : dep ≤ 6) (hk : c s.1 = 78) : ax_F (n + 2) 28 [ax_A (some sr), ax_I (Int32.ofInt dep)] (cH g K s) = some (.inl (some (ax_I (Int32.ofInt 1))), cH g K (cAt s (s.1 + 1))) := by
  have k7 := h.2.1
  have pb := pk_b V q0
  have ep : pk K c s.1 = 78 := by rw [pb.2.2.1 (by omega)]; exact hk
  rw [SchemaReader_readTypeOfKind_F]
  unfold SchemaReader_readTypeOfKind_b
  rw [sr_gr0 X, Option.bind_some, cu_on, pl_ci (Cu_pk h V q0 (by omega)), ep]
  have ek : (Int32.ofInt 78).toInt = 78 := by decide
  simp only [ek, Int.reduceEq, ↓reduceIte]
  rw [sr_gr0 X, Option.bind_some, cu_on, pl_ci (Cu_take h V q0 (by omega) (by decide) (by decide)), if_pos hk, if_pos hk]
  exact za_rz (Or.inr rfl)
theorem Sr_kS {n : Nat} {g : ax_Hp} {K : Nat → Nat} {sr sc vr : Nat} {c : Int → Int} {s : cS} {dep : Int} (h : kOk K) (X : srX g K sr sc vr) (V : cvX g K c) (q0 : 0 ≤ s.1) (q1 : s.1 ≤ K 7) (d0 : 0 ≤ dep) (d1 : dep ≤ 6) (hk : c s.1 = 83) : ax_F (n + 2) 28 [ax_A (some sr), ax_I (Int32.ofInt dep)] (cH g K s) = some (.inl (some (ax_I (Int32.ofInt 1))), cH g K (cAt s (s.1 + 1))) := by
  have k7 := h.2.1
  have pb := pk_b V q0
  have ep : pk K c s.1 = 83 := by rw [pb.2.2.1 (by omega)]; exact hk
  rw [SchemaReader_readTypeOfKind_F]
  unfold SchemaReader_readTypeOfKind_b
  rw [sr_gr0 X, Option.bind_some, cu_on, pl_ci (Cu_pk h V q0 (by omega)), ep]
  have ek : (Int32.ofInt 83).toInt = 83 := by decide
  simp only [ek, Int.reduceEq, ↓reduceIte]
  rw [sr_gr0 X, Option.bind_some, cu_on, pl_ci (Cu_take h V q0 (by omega) (by decide) (by decide)), if_pos hk, if_pos hk]
  exact za_rz (Or.inr rfl)
theorem Sr_kE {n : Nat} {g : ax_Hp} {K : Nat → Nat} {sr sc vr : Nat} {c : Int → Int} {s : cS} {dep : Int} (h : kOk K) (X : srX g K sr sc vr) (V : cvX g K c) (q0 : 0 ≤ s.1) (q1 : s.1 ≤ K 7) (d0 : 0 ≤ dep) (d1 : dep ≤ 6) {b : Int} {H : ax_Hp} (hb : b = 0 ∨ b = 1) (hk : c s.1 = 69) (e : ax_F (n + 1) 31 [ax_A (some sr)] (cH g K s) = some (.inl (some (ax_I (Int32.ofInt b))), H)) : ax_F (n + 2) 28 [ax_A (some sr), ax_I (Int32.ofInt dep)] (cH g K s) = some (.inl (some (ax_I (Int32.ofInt b))), H) := by
  have k7 := h.2.1
  have pb := pk_b V q0
  have ep : pk K c s.1 = 69 := by rw [pb.2.2.1 (by omega)]; exact hk
  rw [SchemaReader_readTypeOfKind_F]
  unfold SchemaReader_readTypeOfKind_b
  rw [sr_gr0 X, Option.bind_some, cu_on, pl_ci (Cu_pk h V q0 (by omega)), ep]
  have ek : (Int32.ofInt 69).toInt = 69 := by decide
  simp only [ek, Int.reduceEq, ↓reduceIte]
  rw [sr_on X, pl_ci e]
  exact za_rz hb
theorem Sr_kA {n : Nat} {g : ax_Hp} {K : Nat → Nat} {sr sc vr : Nat} {c : Int → Int} {s : cS} {dep : Int} (h : kOk K) (X : srX g K sr sc vr) (V : cvX g K c) (q0 : 0 ≤ s.1) (q1 : s.1 ≤ K 7) (d0 : 0 ≤ dep) (d1 : dep ≤ 6) {b : Int} {H : ax_Hp} (d5 : dep ≤ 5) (hb : b = 0 ∨ b = 1) (hk : c s.1 = 65) (e : ax_F (n + 1) 26 [ax_A (some sr), ax_I (Int32.ofInt (dep + 1))] (cH g K (cAt s (s.1 + 1))) = some (.inl (some (ax_I (Int32.ofInt b))), H)) : ax_F (n + 2) 28 [ax_A (some sr), ax_I (Int32.ofInt dep)] (cH g K s) = some (.inl (some (ax_I (Int32.ofInt b))), H) := by
  have k7 := h.2.1
  have pb := pk_b V q0
  have ep : pk K c s.1 = 65 := by rw [pb.2.2.1 (by omega)]; exact hk
  rw [SchemaReader_readTypeOfKind_F]
  unfold SchemaReader_readTypeOfKind_b
  rw [sr_gr0 X, Option.bind_some, cu_on, pl_ci (Cu_pk h V q0 (by omega)), ep]
  have ek : (Int32.ofInt 65).toInt = 65 := by decide
  simp only [ek, Int.reduceEq, ↓reduceIte]
  rw [if_neg (show ¬ (6 : Int32) ≤ Int32.ofInt dep from by rw [show (6 : Int32) = Int32.ofInt 6 from rfl, zi_le (by omega) (by omega) (by omega) (by omega)]; omega), sr_gr0 X, Option.bind_some, cu_on, pl_ci (Cu_take h V q0 (by omega) (by decide) (by decide)), if_pos hk, if_pos hk, if_neg (show ¬ Int32.ofInt 1 = 0 from by decide), sr_on X, show (1 : Int32) = Int32.ofInt 1 from rfl, zi_add, pl_ci e]
  rcases hb with rfl | rfl
  · rw [if_pos (show Int32.ofInt 0 = 0 from rfl)]; exact za_rz (v := 0) (Or.inl rfl)
  · rw [if_neg (show ¬ Int32.ofInt 1 = 0 from by decide)]; exact za_rz (v := 1) (Or.inr rfl)
theorem Sr_kR {n : Nat} {g : ax_Hp} {K : Nat → Nat} {sr sc vr : Nat} {c : Int → Int} {s : cS} {dep : Int} (h : kOk K) (X : srX g K sr sc vr) (V : cvX g K c) (q0 : 0 ≤ s.1) (q1 : s.1 ≤ K 7) (d0 : 0 ≤ dep) (d1 : dep ≤ 6) {b : Int} {H : ax_Hp} (d5 : dep ≤ 5) (hb : b = 0 ∨ b = 1) (hk : c s.1 = 82) (e : ax_F (n + 1) 40 [ax_A (some sr), ax_I (Int32.ofInt dep)] (cH g K s) = some (.inl (some (ax_I (Int32.ofInt b))), H)) : ax_F (n + 2) 28 [ax_A (some sr), ax_I (Int32.ofInt dep)] (cH g K s) = some (.inl (some (ax_I (Int32.ofInt b))), H) := by
  have k7 := h.2.1
  have pb := pk_b V q0
  have ep : pk K c s.1 = 82 := by rw [pb.2.2.1 (by omega)]; exact hk
  rw [SchemaReader_readTypeOfKind_F]
  unfold SchemaReader_readTypeOfKind_b
  rw [sr_gr0 X, Option.bind_some, cu_on, pl_ci (Cu_pk h V q0 (by omega)), ep]
  have ek : (Int32.ofInt 82).toInt = 82 := by decide
  simp only [ek, Int.reduceEq, ↓reduceIte]
  rw [if_neg (show ¬ (6 : Int32) ≤ Int32.ofInt dep from by rw [show (6 : Int32) = Int32.ofInt 6 from rfl, zi_le (by omega) (by omega) (by omega) (by omega)]; omega), sr_on X, pl_ci e]
  rcases hb with rfl | rfl
  · rw [if_pos (show Int32.ofInt 0 = 0 from rfl)]; exact za_rz (v := 0) (Or.inl rfl)
  · rw [if_neg (show ¬ Int32.ofInt 1 = 0 from by decide)]; exact za_rz (v := 1) (Or.inr rfl)
theorem Sr_kU {n : Nat} {g : ax_Hp} {K : Nat → Nat} {sr sc vr : Nat} {c : Int → Int} {s : cS} {dep : Int} (h : kOk K) (X : srX g K sr sc vr) (V : cvX g K c) (q0 : 0 ≤ s.1) (q1 : s.1 ≤ K 7) (d0 : 0 ≤ dep) (d1 : dep ≤ 6) {b : Int} {H : ax_Hp} (d5 : dep ≤ 5) (hb : b = 0 ∨ b = 1) (hk : c s.1 = 85) (e : ax_F (n + 1) 37 [ax_A (some sr), ax_I (Int32.ofInt dep)] (cH g K s) = some (.inl (some (ax_I (Int32.ofInt b))), H)) : ax_F (n + 2) 28 [ax_A (some sr), ax_I (Int32.ofInt dep)] (cH g K s) = some (.inl (some (ax_I (Int32.ofInt b))), H) := by
  have k7 := h.2.1
  have pb := pk_b V q0
  have ep : pk K c s.1 = 85 := by rw [pb.2.2.1 (by omega)]; exact hk
  rw [SchemaReader_readTypeOfKind_F]
  unfold SchemaReader_readTypeOfKind_b
  rw [sr_gr0 X, Option.bind_some, cu_on, pl_ci (Cu_pk h V q0 (by omega)), ep]
  have ek : (Int32.ofInt 85).toInt = 85 := by decide
  simp only [ek, Int.reduceEq, ↓reduceIte]
  rw [if_neg (show ¬ (6 : Int32) ≤ Int32.ofInt dep from by rw [show (6 : Int32) = Int32.ofInt 6 from rfl, zi_le (by omega) (by omega) (by omega) (by omega)]; omega), sr_on X, pl_ci e]
  rcases hb with rfl | rfl
  · rw [if_pos (show Int32.ofInt 0 = 0 from rfl)]; exact za_rz (v := 0) (Or.inl rfl)
  · rw [if_neg (show ¬ Int32.ofInt 1 = 0 from by decide)]; exact za_rz (v := 1) (Or.inr rfl)
theorem Sr_nA {n : Nat} {g : ax_Hp} {K : Nat → Nat} {sr sc vr : Nat} {c : Int → Int} {s : cS} {dep : Int} (h : kOk K) (X : srX g K sr sc vr) (V : cvX g K c) (q0 : 0 ≤ s.1) (q1 : s.1 ≤ K 7) (d0 : 0 ≤ dep) (d1 : dep ≤ 6) (d6 : dep = 6) (hk : c s.1 = 65) : ax_F (n + 2) 28 [ax_A (some sr), ax_I (Int32.ofInt dep)] (cH g K s) = some (.inl (some (ax_I (Int32.ofInt 0))), cH g K s) := by
  have k7 := h.2.1
  have pb := pk_b V q0
  have ep : pk K c s.1 = 65 := by rw [pb.2.2.1 (by omega)]; exact hk
  rw [SchemaReader_readTypeOfKind_F]
  unfold SchemaReader_readTypeOfKind_b
  rw [sr_gr0 X, Option.bind_some, cu_on, pl_ci (Cu_pk h V q0 (by omega)), ep]
  have ek : (Int32.ofInt 65).toInt = 65 := by decide
  simp only [ek, Int.reduceEq, ↓reduceIte]
  rw [if_pos (show (6 : Int32) ≤ Int32.ofInt dep from by rw [show (6 : Int32) = Int32.ofInt 6 from rfl, zi_le (by omega) (by omega) (by omega) (by omega)]; omega)]
  exact za_rz (v := 0) (Or.inl rfl)
theorem Sr_nR {n : Nat} {g : ax_Hp} {K : Nat → Nat} {sr sc vr : Nat} {c : Int → Int} {s : cS} {dep : Int} (h : kOk K) (X : srX g K sr sc vr) (V : cvX g K c) (q0 : 0 ≤ s.1) (q1 : s.1 ≤ K 7) (d0 : 0 ≤ dep) (d1 : dep ≤ 6) (d6 : dep = 6) (hk : c s.1 = 82) : ax_F (n + 2) 28 [ax_A (some sr), ax_I (Int32.ofInt dep)] (cH g K s) = some (.inl (some (ax_I (Int32.ofInt 0))), cH g K s) := by
  have k7 := h.2.1
  have pb := pk_b V q0
  have ep : pk K c s.1 = 82 := by rw [pb.2.2.1 (by omega)]; exact hk
  rw [SchemaReader_readTypeOfKind_F]
  unfold SchemaReader_readTypeOfKind_b
  rw [sr_gr0 X, Option.bind_some, cu_on, pl_ci (Cu_pk h V q0 (by omega)), ep]
  have ek : (Int32.ofInt 82).toInt = 82 := by decide
  simp only [ek, Int.reduceEq, ↓reduceIte]
  rw [if_pos (show (6 : Int32) ≤ Int32.ofInt dep from by rw [show (6 : Int32) = Int32.ofInt 6 from rfl, zi_le (by omega) (by omega) (by omega) (by omega)]; omega)]
  exact za_rz (v := 0) (Or.inl rfl)
theorem Sr_nU {n : Nat} {g : ax_Hp} {K : Nat → Nat} {sr sc vr : Nat} {c : Int → Int} {s : cS} {dep : Int} (h : kOk K) (X : srX g K sr sc vr) (V : cvX g K c) (q0 : 0 ≤ s.1) (q1 : s.1 ≤ K 7) (d0 : 0 ≤ dep) (d1 : dep ≤ 6) (d6 : dep = 6) (hk : c s.1 = 85) : ax_F (n + 2) 28 [ax_A (some sr), ax_I (Int32.ofInt dep)] (cH g K s) = some (.inl (some (ax_I (Int32.ofInt 0))), cH g K s) := by
  have k7 := h.2.1
  have pb := pk_b V q0
  have ep : pk K c s.1 = 85 := by rw [pb.2.2.1 (by omega)]; exact hk
  rw [SchemaReader_readTypeOfKind_F]
  unfold SchemaReader_readTypeOfKind_b
  rw [sr_gr0 X, Option.bind_some, cu_on, pl_ci (Cu_pk h V q0 (by omega)), ep]
  have ek : (Int32.ofInt 85).toInt = 85 := by decide
  simp only [ek, Int.reduceEq, ↓reduceIte]
  rw [if_pos (show (6 : Int32) ≤ Int32.ofInt dep from by rw [show (6 : Int32) = Int32.ofInt 6 from rfl, zi_le (by omega) (by omega) (by omega) (by omega)]; omega)]
  exact za_rz (v := 0) (Or.inl rfl)
theorem Sr_no {n : Nat} {g : ax_Hp} {K : Nat → Nat} {sr sc vr : Nat} {c : Int → Int} {s : cS} {dep : Int} (h : kOk K) (X : srX g K sr sc vr) (V : cvX g K c) (q0 : 0 ≤ s.1) (q1 : s.1 ≤ K 7) (d0 : 0 ≤ dep) (d1 : dep ≤ 6) (hk : ¬ isPe (c s.1) ∧ ¬ isHo (c s.1)) : ax_F (n + 2) 28 [ax_A (some sr), ax_I (Int32.ofInt dep)] (cH g K s) = some (.inl (some (ax_I (Int32.ofInt 0))), cH g K s) := by
  have k7 := h.2.1
  have pb := pk_b V q0
  have ep : ¬ isPe (pk K c s.1) ∧ ¬ isHo (pk K c s.1) := by
    by_cases z : c s.1 = 0
    · rw [pb.2.2.2.1 z]; decide
    · rw [pb.2.2.1 z]; exact hk
  rw [SchemaReader_readTypeOfKind_F]
  unfold SchemaReader_readTypeOfKind_b
  rw [sr_gr0 X, Option.bind_some, cu_on, pl_ci (Cu_pk h V q0 (by omega))]
  have ek : (Int32.ofInt (pk K c s.1)).toInt = pk K c s.1 := zi_toInt (by omega) (by omega)
  generalize pk K c s.1 = x at *
  have z0 : ax_rz 0 (cH g K s) = some (.inl (some (ax_I (Int32.ofInt 0))), cH g K s) := za_rz (v := 0) (Or.inl rfl)
  simp only [ek, z0, ite_self, if_neg (show ¬ x = 65 by omega), if_neg (show ¬ x = 66 by omega), if_neg (show ¬ x = 69 by omega), if_neg (show ¬ x = 73 by omega), if_neg (show ¬ x = 76 by omega), if_neg (show ¬ x = 78 by omega), if_neg (show ¬ x = 82 by omega), if_neg (show ¬ x = 83 by omega), if_neg (show ¬ x = 85 by omega)]
