/-- the working cells of a reading call of the desk: cursor's place; ends, nexts, unionMarks; the bytes row's size and items -/
abbrev cS : Type := Int × (Nat → Int) × (Nat → Int) × (Nat → Int) × Int × (Nat → Int)
/-- K: 0 cursor, 1 ends, 2 nexts, 3 unionMarks, 4 bytes row, 5 its items, 6 the cursor's items, 7 its size, 8 the marks' length, 9 the bytes' room -/
def kOk (K : Nat → Nat) : Prop := (∀ i j, i < 6 → j < 6 → K i = K j → i = j) ∧ K 7 ≤ 160 ∧ K 8 ≤ 160 ∧ K 9 ≤ 400
def cH (g : ax_Hp) (K : Nat → Nat) (s : cS) : ax_Hp := (g.1, g.2.1, fun q => if q = K 0 then some (.inl (0, [ax_A (some (K 6)), ax_I (Int32.ofInt (K 7)), ax_I (Int32.ofInt s.1)])) else if q = K 1 then some (.inr (1, arL (K 8) s.2.1)) else if q = K 2 then some (.inr (1, arL (K 8) s.2.2.1)) else if q = K 3 then some (.inr (1, arL (K 8) s.2.2.2.1)) else if q = K 4 then some (.inl (2, [ax_A (some (K 5)), ax_I (Int32.ofInt s.2.2.2.2.1)])) else if q = K 5 then some (.inr (1, arL (K 9) s.2.2.2.2.2)) else g.2.2 q)
theorem cH_1 (g : ax_Hp) (K : Nat → Nat) (s : cS) : (cH g K s).1 = g.1 := rfl
theorem cH_2 (g : ax_Hp) (K : Nat → Nat) (s : cS) : (cH g K s).2.1 = g.2.1 := rfl
theorem cH_o {g : ax_Hp} {K : Nat → Nat} {s : cS} {q : Nat} (hq : ∀ i, i < 6 → q ≠ K i) : (cH g K s).2.2 q = g.2.2 q := by
  show (if q = K 0 then _ else if q = K 1 then _ else if q = K 2 then _ else if q = K 3 then _ else if q = K 4 then _ else if q = K 5 then _ else _) = _
  rw [if_neg (hq 0 (by decide)), if_neg (hq 1 (by decide)), if_neg (hq 2 (by decide)), if_neg (hq 3 (by decide)), if_neg (hq 4 (by decide)), if_neg (hq 5 (by decide))]
theorem cH_k0 (g : ax_Hp) (K : Nat → Nat) (s : cS) : (cH g K s).2.2 (K 0) = some (.inl (0, [ax_A (some (K 6)), ax_I (Int32.ofInt (K 7)), ax_I (Int32.ofInt s.1)])) := if_pos rfl
theorem kne {K : Nat → Nat} (h : kOk K) {i j : Nat} (hi : i < 6) (hj : j < 6) (hij : i ≠ j) : ¬ K i = K j := fun z => hij (h.1 i j hi hj z)
theorem cH_k1 (g : ax_Hp) {K : Nat → Nat} (h : kOk K) (s : cS) : (cH g K s).2.2 (K 1) = some (.inr (1, arL (K 8) s.2.1)) := by
  show (if K 1 = K 0 then _ else if K 1 = K 1 then _ else _) = _
  rw [if_neg (kne h (by decide) (by decide) (by decide)), if_pos rfl]
theorem cH_k2 (g : ax_Hp) {K : Nat → Nat} (h : kOk K) (s : cS) : (cH g K s).2.2 (K 2) = some (.inr (1, arL (K 8) s.2.2.1)) := by
  show (if K 2 = K 0 then _ else if K 2 = K 1 then _ else if K 2 = K 2 then _ else _) = _
  rw [if_neg (kne h (by decide) (by decide) (by decide)), if_neg (kne h (by decide) (by decide) (by decide)), if_pos rfl]
theorem cH_k3 (g : ax_Hp) {K : Nat → Nat} (h : kOk K) (s : cS) : (cH g K s).2.2 (K 3) = some (.inr (1, arL (K 8) s.2.2.2.1)) := by
  show (if K 3 = K 0 then _ else if K 3 = K 1 then _ else if K 3 = K 2 then _ else if K 3 = K 3 then _ else _) = _
  rw [if_neg (kne h (by decide) (by decide) (by decide)), if_neg (kne h (by decide) (by decide) (by decide)), if_neg (kne h (by decide) (by decide) (by decide)), if_pos rfl]
theorem cH_k4 (g : ax_Hp) {K : Nat → Nat} (h : kOk K) (s : cS) : (cH g K s).2.2 (K 4) = some (.inl (2, [ax_A (some (K 5)), ax_I (Int32.ofInt s.2.2.2.2.1)])) := by
  show (if K 4 = K 0 then _ else if K 4 = K 1 then _ else if K 4 = K 2 then _ else if K 4 = K 3 then _ else if K 4 = K 4 then _ else _) = _
  rw [if_neg (kne h (by decide) (by decide) (by decide)), if_neg (kne h (by decide) (by decide) (by decide)), if_neg (kne h (by decide) (by decide) (by decide)), if_neg (kne h (by decide) (by decide) (by decide)), if_pos rfl]
theorem cH_k5 (g : ax_Hp) {K : Nat → Nat} (h : kOk K) (s : cS) : (cH g K s).2.2 (K 5) = some (.inr (1, arL (K 9) s.2.2.2.2.2)) := by
  show (if K 5 = K 0 then _ else if K 5 = K 1 then _ else if K 5 = K 2 then _ else if K 5 = K 3 then _ else if K 5 = K 4 then _ else if K 5 = K 5 then _ else _) = _
  rw [if_neg (kne h (by decide) (by decide) (by decide)), if_neg (kne h (by decide) (by decide) (by decide)), if_neg (kne h (by decide) (by decide) (by decide)), if_neg (kne h (by decide) (by decide) (by decide)), if_neg (kne h (by decide) (by decide) (by decide)), if_pos rfl]
/-- setting one of the cells -/
theorem cH_set {g : ax_Hp} {K : Nat → Nat} (h : kOk K) (s t : cS) (i : Nat) (hi : i < 6) (o : ax_Ob) (e : (cH g K t).2.2 (K i) = some o) (ho : ∀ j, j < 6 → j ≠ i → (cH g K t).2.2 (K j) = (cH g K s).2.2 (K j)) : ax_set (cH g K s) (K i) o = cH g K t := by
  refine Prod.ext rfl (Prod.ext rfl ?_)
  funext q
  by_cases c : q = K i
  · rw [c, pl_set, e]
  · rw [pl_ne c]
    by_cases d : ∃ j, j < 6 ∧ q = K j
    · obtain ⟨j, j1, j2⟩ := d
      rw [j2]
      exact (ho j j1 (fun z => c (by rw [j2, z]))).symm
    · have : ∀ j, j < 6 → q ≠ K j := fun j j1 j2 => d ⟨j, j1, j2⟩
      rw [cH_o this, cH_o this]
def cAt (s : cS) (v : Int) : cS := (v, s.2)
def cEn (s : cS) (i v : Int) : cS := (s.1, (fun m => if m = i.toNat then v else s.2.1 m), s.2.2)
def cNx (s : cS) (i v : Int) : cS := (s.1, s.2.1, (fun m => if m = i.toNat then v else s.2.2.1 m), s.2.2.2)
def cUn (s : cS) (i v : Int) : cS := (s.1, s.2.1, s.2.2.1, (fun m => if m = i.toNat then v else s.2.2.2.1 m), s.2.2.2.2)
def cSz (s : cS) (v : Int) : cS := (s.1, s.2.1, s.2.2.1, s.2.2.2.1, v, s.2.2.2.2.2)
def cBy (s : cS) (i v : Int) : cS := (s.1, s.2.1, s.2.2.1, s.2.2.2.1, s.2.2.2.2.1, (fun m => if m = i.toNat then v else s.2.2.2.2.2 m))
theorem c6 {P : Nat → Prop} (h0 : P 0) (h1 : P 1) (h2 : P 2) (h3 : P 3) (h4 : P 4) (h5 : P 5) : ∀ j, j < 6 → P j := fun j hj => by
  match j, hj with
  | 0, _ => exact h0
  | 1, _ => exact h1
  | 2, _ => exact h2
  | 3, _ => exact h3
  | 4, _ => exact h4
  | 5, _ => exact h5
theorem cpf_at {g : ax_Hp} {K : Nat → Nat} (h : kOk K) (s : cS) (v : Int) : ax_pf (cH g K s) (some (K 0)) 0 2 (ax_I (Int32.ofInt v)) = some (cH g K (cAt s v)) := by
  rw [pl_pf (cH_k0 g K s) (Nat.le_of_ble_eq_true rfl)]
  refine congrArg some (cH_set h s (cAt s v) 0 (by decide) _ (cH_k0 g K _) (c6 (fun z => absurd rfl z) (fun _ => ?_) (fun _ => ?_) (fun _ => ?_) (fun _ => ?_) (fun _ => ?_)))
  · rw [cH_k1 g h, cH_k1 g h]; rfl
  · rw [cH_k2 g h, cH_k2 g h]; rfl
  · rw [cH_k3 g h, cH_k3 g h]; rfl
  · rw [cH_k4 g h, cH_k4 g h]; rfl
  · rw [cH_k5 g h, cH_k5 g h]; rfl
theorem cst_en {g : ax_Hp} {K : Nat → Nat} (h : kOk K) (s : cS) (i v : Int) (h0 : 0 ≤ i) (h1 : i < K 8) : ax_st (cH g K s) (some (K 1)) 1 (Int32.ofInt i) (ax_I (Int32.ofInt v)) = some (cH g K (cEn s i v)) := by
  have := h.2.2.1
  rw [za_st (cH_k1 g h s) h0 h1 (by omega)]
  refine congrArg some (cH_set h s (cEn s i v) 1 (by decide) _ (cH_k1 g h _) (c6 (fun _ => ?_) (fun z => absurd rfl z) (fun _ => ?_) (fun _ => ?_) (fun _ => ?_) (fun _ => ?_)))
  · rw [cH_k0 g, cH_k0 g]; rfl
  · rw [cH_k2 g h, cH_k2 g h]; rfl
  · rw [cH_k3 g h, cH_k3 g h]; rfl
  · rw [cH_k4 g h, cH_k4 g h]; rfl
  · rw [cH_k5 g h, cH_k5 g h]; rfl
theorem cst_nx {g : ax_Hp} {K : Nat → Nat} (h : kOk K) (s : cS) (i v : Int) (h0 : 0 ≤ i) (h1 : i < K 8) : ax_st (cH g K s) (some (K 2)) 1 (Int32.ofInt i) (ax_I (Int32.ofInt v)) = some (cH g K (cNx s i v)) := by
  have := h.2.2.1
  rw [za_st (cH_k2 g h s) h0 h1 (by omega)]
  refine congrArg some (cH_set h s (cNx s i v) 2 (by decide) _ (cH_k2 g h _) (c6 (fun _ => ?_) (fun _ => ?_) (fun z => absurd rfl z) (fun _ => ?_) (fun _ => ?_) (fun _ => ?_)))
  · rw [cH_k0 g, cH_k0 g]; rfl
  · rw [cH_k1 g h, cH_k1 g h]; rfl
  · rw [cH_k3 g h, cH_k3 g h]; rfl
  · rw [cH_k4 g h, cH_k4 g h]; rfl
  · rw [cH_k5 g h, cH_k5 g h]; rfl
theorem cst_un {g : ax_Hp} {K : Nat → Nat} (h : kOk K) (s : cS) (i v : Int) (h0 : 0 ≤ i) (h1 : i < K 8) : ax_st (cH g K s) (some (K 3)) 1 (Int32.ofInt i) (ax_I (Int32.ofInt v)) = some (cH g K (cUn s i v)) := by
  have := h.2.2.1
  rw [za_st (cH_k3 g h s) h0 h1 (by omega)]
  refine congrArg some (cH_set h s (cUn s i v) 3 (by decide) _ (cH_k3 g h _) (c6 (fun _ => ?_) (fun _ => ?_) (fun _ => ?_) (fun z => absurd rfl z) (fun _ => ?_) (fun _ => ?_)))
  · rw [cH_k0 g, cH_k0 g]; rfl
  · rw [cH_k1 g h, cH_k1 g h]; rfl
  · rw [cH_k2 g h, cH_k2 g h]; rfl
  · rw [cH_k4 g h, cH_k4 g h]; rfl
  · rw [cH_k5 g h, cH_k5 g h]; rfl
theorem cpf_sz {g : ax_Hp} {K : Nat → Nat} (h : kOk K) (s : cS) (v : Int) : ax_pf (cH g K s) (some (K 4)) 2 1 (ax_I (Int32.ofInt v)) = some (cH g K (cSz s v)) := by
  rw [pl_pf (cH_k4 g h s) (Nat.le_of_ble_eq_true rfl)]
  refine congrArg some (cH_set h s (cSz s v) 4 (by decide) _ (cH_k4 g h _) (c6 (fun _ => ?_) (fun _ => ?_) (fun _ => ?_) (fun _ => ?_) (fun z => absurd rfl z) (fun _ => ?_)))
  · rw [cH_k0 g, cH_k0 g]; rfl
  · rw [cH_k1 g h, cH_k1 g h]; rfl
  · rw [cH_k2 g h, cH_k2 g h]; rfl
  · rw [cH_k3 g h, cH_k3 g h]; rfl
  · rw [cH_k5 g h, cH_k5 g h]; rfl
theorem cst_by {g : ax_Hp} {K : Nat → Nat} (h : kOk K) (s : cS) (i v : Int) (h0 : 0 ≤ i) (h1 : i < K 9) : ax_st (cH g K s) (some (K 5)) 1 (Int32.ofInt i) (ax_I (Int32.ofInt v)) = some (cH g K (cBy s i v)) := by
  have := h.2.2.2
  rw [za_st (cH_k5 g h s) h0 h1 (by omega)]
  refine congrArg some (cH_set h s (cBy s i v) 5 (by decide) _ (cH_k5 g h _) (c6 (fun _ => ?_) (fun _ => ?_) (fun _ => ?_) (fun _ => ?_) (fun _ => ?_) (fun z => absurd rfl z)))
  · rw [cH_k0 g, cH_k0 g]; rfl
  · rw [cH_k1 g h, cH_k1 g h]; rfl
  · rw [cH_k2 g h, cH_k2 g h]; rfl
  · rw [cH_k3 g h, cH_k3 g h]; rfl
  · rw [cH_k4 g h, cH_k4 g h]; rfl
theorem cln (g : ax_Hp) {K : Nat → Nat} (s : cS) {a n : Nat} {f : Nat → Int} (e : (cH g K s).2.2 a = some (.inr (1, arL n f))) : ax_len (cH g K s) (some a) 1 = some (Int32.ofInt n) := by
  rw [pl_len e, arL_len]; rfl
