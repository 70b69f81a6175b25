theorem Model_readName_l {m : Nat} {h : ax_Hp} {s : mS} {c : Int → Int} {tb q : Int} {P : Int → Int → Prop} (T : isT s tb c) (htb : tb = 0 ∨ tb = 1) (hP : ∀ n y, P n y → s.2.2.1 21 n.toNat = c y ∧ 0 ≤ c y ∧ c y < 65536) (hq : 0 ≤ q ∧ q ≤ 160) : ∀ (l : List Int) (b may : Int) (fuel : Nat), ndCh (s.2.2.1 19) P b l → (may = 0 ∨ may = 1) → l.length < fuel → Model_readName_lp31 (ax_F (m + 1)) fuel (some 24) (Int32.ofInt tb) (Int32.ofInt q) (Int32.ofInt (c q)) (Int32.ofInt may) (Int32.ofInt b) (mH h s) = some (.inl (some (ax_I (Int32.ofInt (if may = 1 ∧ ∀ y ∈ l, c y ≠ c q then (if c (q + 1) = 58 then q + 2 else -1 - (q + 1)) else -1 - q)))), mH h s)
  | [], b, may, fuel, C, hm, hf => by
    obtain ⟨fuel, rfl⟩ : ∃ g, fuel = g + 1 := ⟨fuel - 1, by omega⟩
    have hstep : Model_readName_lp31 (ax_F (m + 1)) (fuel + 1) = Model_readName_bd31 (ax_F (m + 1)) (Model_readName_lp31 (ax_F (m + 1)) fuel) := rfl
    have b1 := T.2.2.2.2 (q + 1)
    have C : b = -1 := C
    subst C
    rw [hstep]
    unfold Model_readName_bd31
    rw [if_pos (show Int32.ofInt (-1) < 0 from by decide)]
    rcases hm with rfl | rfl
    · rw [if_neg (show ¬ ((0 : Int) = 1 ∧ ∀ y ∈ ([] : List Int), c y ≠ c q) from fun z => absurd z.1 (by decide)), if_pos (show Int32.ofInt 0 = 0 from rfl), show (-1 : Int32) = Int32.ofInt (-1) from rfl, zi_sub]
      rfl
    · rw [if_pos (show (1 : Int) = 1 ∧ ∀ y ∈ ([] : List Int), c y ≠ c q from ⟨rfl, fun y hy => absurd hy List.not_mem_nil⟩), if_neg (show ¬ Int32.ofInt 1 = 0 from by decide), mS_on, show (-1 : Int32) = Int32.ofInt (-1) from rfl, show (1 : Int32) = Int32.ofInt 1 from rfl, show (2 : Int32) = Int32.ofInt 2 from rfl, zi_add, zi_add, zi_sub, pl_ci (Model_look_z T (by omega) (by omega) (by omega) (by omega))]
      by_cases e : c (q + 1) = 58
      · rw [if_pos e, if_pos (show Int32.ofInt (c (q + 1)) = 58 from by rw [e]; rfl)]; rfl
      · rw [if_neg e, if_neg (show ¬ Int32.ofInt (c (q + 1)) = 58 from by rw [show (58 : Int32) = Int32.ofInt 58 from rfl, zi_eq (by omega) (by omega) (by omega) (by omega)]; exact e)]; rfl
  | y :: l, b, may, fuel, C, hm, hf => by
    obtain ⟨fuel, rfl⟩ : ∃ g, fuel = g + 1 := ⟨fuel - 1, by omega⟩
    have hstep : Model_readName_lp31 (ax_F (m + 1)) (fuel + 1) = Model_readName_bd31 (ax_F (m + 1)) (Model_readName_lp31 (ax_F (m + 1)) fuel) := rfl
    obtain ⟨c1, c2, c3, c4⟩ := C
    obtain ⟨k1, k2, k3⟩ := hP _ _ c3
    have bq := T.2.2.2.2 q
    rw [List.length_cons] at hf
    have I := fun w hw => Model_readName_l (m := m) (h := h) T htb hP hq l _ w fuel c4 hw (by omega)
    rw [hstep]
    unfold Model_readName_bd31 Model_readName_jn56 Model_readName_jn57
    rw [if_neg (show ¬ Int32.ofInt b < 0 from by rw [zi_0, zi_lt (by omega) (by omega) (by omega) (by omega)]; omega), mgr_19, Option.bind_some, mld_19 _ _ _ c1 c2, Option.bind_some]
    rcases hm with rfl | rfl
    · have := I 0 (Or.inl rfl)
      rw [if_neg (show ¬ ((0 : Int) = 1 ∧ ∀ y ∈ l, c y ≠ c q) from fun z => absurd z.1 (by decide))] at this
      rw [if_neg (show ¬ ((0 : Int) = 1 ∧ ∀ z ∈ y :: l, c z ≠ c q) from fun z => absurd z.1 (by decide)), if_pos (show Int32.ofInt 0 = 0 from rfl)]
      exact this
    · rw [if_neg (show ¬ Int32.ofInt 1 = 0 from by decide), mgr_21, Option.bind_some, mld_21 _ _ _ c1 c2, Option.bind_some, k1]
      by_cases e : c y = c q
      · have := I 0 (Or.inl rfl)
        rw [if_neg (show ¬ ((0 : Int) = 1 ∧ ∀ y ∈ l, c y ≠ c q) from fun z => absurd z.1 (by decide))] at this
        rw [if_neg (show ¬ ((1 : Int) = 1 ∧ ∀ z ∈ y :: l, c z ≠ c q) from fun z => z.2 y List.mem_cons_self e), if_pos (show Int32.ofInt (c y) = Int32.ofInt (c q) from by rw [e])]
        exact this
      · have := I 1 (Or.inr rfl)
        have r : (if (1 : Int) = 1 ∧ ∀ z ∈ y :: l, c z ≠ c q then (if c (q + 1) = 58 then q + 2 else -1 - (q + 1)) else -1 - q) = if (1 : Int) = 1 ∧ ∀ z ∈ l, c z ≠ c q then (if c (q + 1) = 58 then q + 2 else -1 - (q + 1)) else -1 - q := by
          by_cases w : ∀ z ∈ l, c z ≠ c q
          · rw [if_pos (show (1 : Int) = 1 ∧ ∀ z ∈ l, c z ≠ c q from ⟨rfl, w⟩), if_pos (show (1 : Int) = 1 ∧ ∀ z ∈ y :: l, c z ≠ c q from ⟨rfl, fun z hz => (List.mem_cons.mp hz).elim (fun w => by rw [w]; exact e) (w z)⟩)]
          · rw [if_neg (show ¬ ((1 : Int) = 1 ∧ ∀ z ∈ l, c z ≠ c q) from fun z => w z.2), if_neg (show ¬ ((1 : Int) = 1 ∧ ∀ z ∈ y :: l, c z ≠ c q) from fun z => w fun v hv => z.2 v (List.mem_cons_of_mem _ hv))]
        rw [r, if_neg (show ¬ Int32.ofInt (c y) = Int32.ofInt (c q) from by rw [zi_eq (by omega) (by omega) (by omega) (by omega)]; exact e), Option.bind_some, mld_19 _ _ _ c1 c2, Option.bind_some]
        exact this
/-- a field's name -/
theorem Model_readName_z {m : Nat} {h : ax_Hp} {s : mS} {c : Int → Int} {tb q o : Int} {P : Int → Int → Prop} {l : List Int} (T : isT s tb c) (htb : tb = 0 ∨ tb = 1) (hq : 0 ≤ q ∧ q ≤ 160) (ho : s.1 26 = o) (o0 : 0 < o) (o1 : o ≤ 8) (p0 : 0 ≤ s.2.2.1 27 (o - 1).toNat) (p1 : s.2.2.1 27 (o - 1).toNat < 240) (hP : ∀ n y, P n y → s.2.2.1 21 n.toNat = c y ∧ 0 ≤ c y ∧ c y < 65536) (C : ndCh (s.2.2.1 19) P (s.2.2.1 18 (s.2.2.1 27 (o - 1).toNat).toNat) l) (hl : l.length < 1000) : ax_F (m + 2) 177 [ax_A (some 24), ax_I (Int32.ofInt tb), ax_I (Int32.ofInt q)] (mH h s) = some (.inl (some (ax_I (Int32.ofInt (if isSm (c q) ∧ ∀ y ∈ l, c y ≠ c q then (if c (q + 1) = 58 then q + 2 else -1 - (q + 1)) else -1 - q)))), mH h s) := by
  have bq := T.2.2.2.2 q
  rw [Model_readName_F]
  unfold Model_readName_b
  rw [mS_on, pl_ci (Model_look_z T (by omega) (by omega) hq.1 (by omega)), pl_ci (Model_isSmall_z bq.1 (by omega))]
  simp (disch := omega) only [↓mgi_26, ↓mgr_18, ↓mgr_27, mld_18, mld_27, Option.bind_some, ↓zi_lit, zi_sub, Int.reduceNeg, ho]
  have I := fun w hw => Model_readName_l (m := m) (h := h) T htb hP hq l _ w ax_fuel C hw (by unfold ax_fuel; omega)
  by_cases e : isSm (c q)
  · have := I 1 (Or.inr rfl)
    rw [if_pos e, this]
    by_cases w : ∀ y ∈ l, c y ≠ c q
    · rw [if_pos (show (1 : Int) = 1 ∧ ∀ y ∈ l, c y ≠ c q from ⟨rfl, w⟩), if_pos (show isSm (c q) ∧ ∀ y ∈ l, c y ≠ c q from ⟨e, w⟩)]
    · rw [if_neg (show ¬ ((1 : Int) = 1 ∧ ∀ y ∈ l, c y ≠ c q) from fun z => w z.2), if_neg (show ¬ (isSm (c q) ∧ ∀ y ∈ l, c y ≠ c q) from fun z => w z.2)]
  · have := I 0 (Or.inl rfl)
    rw [if_neg e, this, if_neg (show ¬ ((0 : Int) = 1 ∧ ∀ y ∈ l, c y ≠ c q) from fun z => absurd z.1 (by decide)), if_neg (show ¬ (isSm (c q) ∧ ∀ y ∈ l, c y ≠ c q) from fun z => e z.1)]
