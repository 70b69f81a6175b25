/-- a node more: n, of kind x, called y -/
def grN (s : mS) (t n x y : Int) : mS := mU (mU (mU (mU (mU (mU (mU (mU (mU s 16 t (s.2.2.1 16 t.toNat + 1)) 17 n x) 18 n (-1)) 19 n (-1)) 20 n 0) 21 n y) 22 n (-1)) 23 n (-1)) 24 n (-1)
/-- hung on to its parent -/
def grP (s : mS) (n o p : Int) : mS := mU (mU (if s.2.2.1 20 p.toNat = 0 then mU s 18 p n else mU s 19 (s.2.2.1 28 (o - 1).toNat) n) 28 (o - 1) n) 20 p (s.2.2.1 20 p.toNat + 1)
def grS (s : mS) (t n x y o : Int) : mS := if o ≤ 0 then grN s t n x y else grP (grN s t n x y) n o (s.2.2.1 27 (o - 1).toNat)
theorem Model_grow_z {m : Nat} {h : ax_Hp} {s : mS} {t a x y o : Int} (t0 : 0 ≤ t) (t1 : t < 2) (ha : s.2.2.1 16 t.toNat = a) (a0 : 0 ≤ a) (a1 : a < 120) (x0 : 0 ≤ x) (x1 : x < 65536) (y0 : 0 ≤ y) (y1 : y < 65536) (ho : s.1 26 = o) (o0 : 0 ≤ o) (o1 : o ≤ 8)
    (hp : 0 < o → 0 ≤ s.2.2.1 27 (o - 1).toNat ∧ s.2.2.1 27 (o - 1).toNat < 120 * t + a ∧ 0 ≤ s.2.2.1 20 (s.2.2.1 27 (o - 1).toNat).toNat ∧ s.2.2.1 20 (s.2.2.1 27 (o - 1).toNat).toNat < 1000 ∧ (s.2.2.1 20 (s.2.2.1 27 (o - 1).toNat).toNat ≠ 0 → 0 ≤ s.2.2.1 28 (o - 1).toNat ∧ s.2.2.1 28 (o - 1).toNat < 240)) :
    ax_F (m + 1) 173 [ax_A (some 24), ax_I (Int32.ofInt t), ax_I (Int32.ofInt x), ax_I (Int32.ofInt y)] (mH h s) = some (.inl (some (ax_I (Int32.ofInt (120 * t + a)))), mH h (grS s t (120 * t + a) x y o)) := by
  rw [Model_grow_F]
  unfold Model_grow_b grS
  have e1 : ∀ g : mS, Model_grow_jn171 (ax_F m) (Int32.ofInt (120 * t + a)) (mH h g) = some (.inl (some (ax_I (Int32.ofInt (120 * t + a)))), mH h g) := fun g => rfl
  simp (disch := omega) only [↓mgi_26, ↓mgr_16, ↓mgr_17, ↓mgr_18, ↓mgr_19, ↓mgr_20, ↓mgr_21, ↓mgr_22, ↓mgr_23, ↓mgr_24, ↓mgr_27, ↓mgr_28, mld_16, mld_20, mld_27, mld_28, mst_16, mst_18, mst_19, mst_20, mst_22, mst_23, mst_24, mstc_17, mstc_21, Option.bind_some, ↓zi_lit, zi_neg, zi_add, zi_sub, zi_mul, mU_1, mU_3, zi_le, zi_eq, ↓reduceIte, eq_self, Nat.reduceEqDiff, Int.reduceNeg, false_and, true_and, ha, ho]
  by_cases c : o ≤ 0
  · rw [if_pos c, if_pos c, e1]
    unfold grN
    rw [ha]
  · rw [if_neg c, if_neg c]
    obtain ⟨p1, p2, p3, p4, p5⟩ := hp (by omega)
    generalize hpp : s.2.2.1 27 (o - 1).toNat = p at *
    have ne : p.toNat ≠ (120 * t + a).toNat := by omega
    have e20 : (if p.toNat = (120 * t + a).toNat then (0 : Int) else s.2.2.1 20 p.toNat) = s.2.2.1 20 p.toNat := if_neg ne
    simp (disch := omega) only [Int.reduceNeg, e20]
    have hN : grN s t (120 * t + a) x y = mU (mU (mU (mU (mU (mU (mU (mU (mU s 16 t (a + 1)) 17 (120 * t + a) x) 18 (120 * t + a) (-1)) 19 (120 * t + a) (-1)) 20 (120 * t + a) 0) 21 (120 * t + a) y) 22 (120 * t + a) (-1)) 23 (120 * t + a) (-1)) 24 (120 * t + a) (-1) := by unfold grN; rw [ha]
    rw [← hN]
    have g20 : (grN s t (120 * t + a) x y).2.2.1 20 p.toNat = s.2.2.1 20 p.toNat := by
      unfold grN
      simp (disch := omega) only [mU_3, ↓reduceIte, eq_self, Nat.reduceEqDiff, Int.reduceNeg, false_and, true_and]
      exact e20
    have g28 : (grN s t (120 * t + a) x y).2.2.1 28 = s.2.2.1 28 := rfl
    have g26 : (grN s t (120 * t + a) x y).1 26 = o := ho
    unfold grP Model_grow_jn147
    rw [g20]
    by_cases c2 : s.2.2.1 20 p.toNat = 0
    · rw [if_pos c2, if_pos c2]
      simp (disch := omega) only [↓mgi_26, ↓mgr_20, ↓mgr_28, mld_20, mst_20, mst_28, Option.bind_some, ↓zi_lit, zi_add, zi_sub, mU_1, mU_3, ↓reduceIte, eq_self, Nat.reduceEqDiff, Int.reduceAdd, false_and, and_true, g26, g20, c2]
      exact e1 _
    · rw [if_neg c2, if_neg c2]
      obtain ⟨q1, q2⟩ := p5 c2
      rw [g28]
      simp (disch := omega) only [↓mgi_26, ↓mgr_20, ↓mgr_28, mld_20, mst_20, mst_28, Option.bind_some, ↓zi_lit, zi_add, zi_sub, mU_1, mU_3, ↓reduceIte, Nat.reduceEqDiff, false_and, g26, g20]
      exact e1 _
theorem Model_begin_z {m : Nat} {h : ax_Hp} {s : mS} {n o : Int} (ho : s.1 26 = o) (o0 : 0 ≤ o) (o1 : o < 8) : ax_F (m + 1) 176 [ax_A (some 24), ax_I (Int32.ofInt n)] (mH h s) = some (.inl none, mH h (mI (mU (mU s 27 o n) 28 o (-1)) 26 (o + 1))) := by
  rw [Model_begin_F]
  unfold Model_begin_b
  simp (disch := omega) only [↓mgi_26, mpf_26, ↓mgr_27, ↓mgr_28, mst_27, mst_28, Option.bind_some, ↓zi_lit, zi_neg, zi_add, mU_1, Int.reduceNeg, ho]
  rfl
theorem Model_isSmall_z {m : Nat} {h : ax_Hp} {x : Int} (x0 : 0 ≤ x) (x1 : x < 65536) : ax_F (m + 1) 175 [ax_I (Int32.ofInt x)] h = some (.inl (some (ax_I (Int32.ofInt (if isSm x then 1 else 0)))), h) := by
  rw [Model_isSmall_F]
  unfold Model_isSmall_b
  simp (disch := omega) only [↓zi_lit, zi_lt]
  by_cases c1 : x < 97
  · rw [if_pos c1, if_neg (by omega), za_rz (Or.inl rfl)]
  · rw [if_neg c1]
    by_cases c2 : 122 < x
    · rw [if_pos c2, if_neg (by omega), za_rz (Or.inl rfl)]
    · rw [if_neg c2, if_pos (by omega), za_rz (Or.inr rfl)]
/-- do the nodes of the chain that begins with b have the kinds / names of these places? -/
theorem Model_mayBegin_l {m : Nat} {h : ax_Hp} {s : mS} {c : Int → Int} {P : Int → Int → Prop} {x : Int} (hP : ∀ n y, P n y → s.2.2.1 17 n.toNat = c y ∧ 0 ≤ c y ∧ c y < 65536) (x0 : 0 ≤ x) (x1 : x < 65536) : ∀ (l : List Int) (b may : Int) (fuel : Nat), ndCh (s.2.2.1 19) P b l → (may = 0 ∨ may = 1) → l.length < fuel → Model_mayBegin_lp146 (ax_F m) fuel (some 24) (Int32.ofInt x) (Int32.ofInt may) (Int32.ofInt b) (mH h s) = some (.inl (some (ax_I (Int32.ofInt (if may = 1 ∧ ∀ y ∈ l, c y ≠ x then 1 else 0)))), mH h s)
  | [], b, may, fuel, C, hm, hf => by
    obtain ⟨fuel, rfl⟩ : ∃ g, fuel = g + 1 := ⟨fuel - 1, by omega⟩
    have hstep : Model_mayBegin_lp146 (ax_F m) (fuel + 1) = Model_mayBegin_bd146 (ax_F m) (Model_mayBegin_lp146 (ax_F m) fuel) := rfl
    have C : b = -1 := C
    subst C
    rw [hstep]
    unfold Model_mayBegin_bd146 Model_mayBegin_jn186
    rw [if_pos (by decide)]
    rcases hm with rfl | rfl
    · rw [if_neg (fun z => absurd z.1 (by decide)), za_rz (Or.inl rfl)]
    · rw [if_pos ⟨rfl, fun y hy => absurd hy List.not_mem_nil⟩, za_rz (Or.inr rfl)]
  | y :: l, b, may, fuel, C, hm, hf => by
    obtain ⟨fuel, rfl⟩ : ∃ g, fuel = g + 1 := ⟨fuel - 1, by omega⟩
    have hstep : Model_mayBegin_lp146 (ax_F m) (fuel + 1) = Model_mayBegin_bd146 (ax_F m) (Model_mayBegin_lp146 (ax_F m) fuel) := rfl
    obtain ⟨c1, c2, c3, c4⟩ := C
    obtain ⟨k1, k2, k3⟩ := hP _ _ c3
    rw [List.length_cons] at hf
    have I := fun w hw => Model_mayBegin_l (m := m) (h := h) hP x0 x1 l _ w fuel c4 hw (by omega)
    rw [hstep]
    unfold Model_mayBegin_bd146 Model_mayBegin_jn171 Model_mayBegin_jn172
    rcases hm with rfl | rfl
    · have := I 0 (Or.inl rfl)
      rw [if_neg (show ¬ ((0 : Int) = 1 ∧ ∀ y ∈ l, c y ≠ x) from fun z => absurd z.1 (by decide))] at this
      rw [if_neg (show ¬ ((0 : Int) = 1 ∧ ∀ z ∈ y :: l, c z ≠ x) from fun z => absurd z.1 (by decide))]
      simp (disch := omega) only [↓mgr_19, mld_19, Option.bind_some, ↓zi_lit, zi_lt, ↓reduceIte, eq_self]
      rw [if_neg (show ¬ b < 0 by omega)]
      exact this
    · by_cases e : c y = x
      · have := I 0 (Or.inl rfl)
        rw [if_neg (show ¬ ((0 : Int) = 1 ∧ ∀ y ∈ l, c y ≠ x) from fun z => absurd z.1 (by decide))] at this
        rw [if_neg (show ¬ ((1 : Int) = 1 ∧ ∀ z ∈ y :: l, c z ≠ x) from fun z => z.2 y List.mem_cons_self e)]
        simp (disch := omega) only [↓mgr_17, ↓mgr_19, mld_17, mld_19, Option.bind_some, ↓zi_lit, zi_lt, zi_eq, ↓reduceIte, Int.reduceEq, k1]
        rw [if_neg (show ¬ b < 0 by omega), if_pos e]
        exact this
      · have := I 1 (Or.inr rfl)
        have r : (if (1 : Int) = 1 ∧ ∀ z ∈ y :: l, c z ≠ x then (1 : Int) else 0) = if (1 : Int) = 1 ∧ ∀ z ∈ l, c z ≠ x then 1 else 0 := by
          by_cases q : ∀ z ∈ l, c z ≠ x
          · rw [if_pos (show (1 : Int) = 1 ∧ ∀ z ∈ l, c z ≠ x from ⟨rfl, q⟩), if_pos (show (1 : Int) = 1 ∧ ∀ z ∈ y :: l, c z ≠ x from ⟨rfl, fun z hz => (List.mem_cons.mp hz).elim (fun w => by rw [w]; exact e) (q z)⟩)]
          · rw [if_neg (show ¬ ((1 : Int) = 1 ∧ ∀ z ∈ l, c z ≠ x) from fun z => q z.2), if_neg (show ¬ ((1 : Int) = 1 ∧ ∀ z ∈ y :: l, c z ≠ x) from fun z => q fun w hw => z.2 w (List.mem_cons_of_mem _ hw))]
        rw [r, ← this]
        simp (disch := omega) only [↓mgr_17, ↓mgr_19, mld_17, mld_19, Option.bind_some, ↓zi_lit, zi_lt, zi_eq, ↓reduceIte, Int.reduceEq, k1]
        rw [if_neg (show ¬ b < 0 by omega), if_neg e]
