/-- the parent has nothing against a type that begins with x: it is no U, or x is another letter than those of its branches l, and no U -/
def parOk (s : mS) (c : Int → Int) (o x : Int) : Prop := o ≤ 0 ∨ (0 ≤ s.2.2.1 27 (o - 1).toNat ∧ s.2.2.1 27 (o - 1).toNat < 240 ∧ s.2.2.1 17 (s.2.2.1 27 (o - 1).toNat).toNat ≠ 85 ∧ 0 ≤ s.2.2.1 17 (s.2.2.1 27 (o - 1).toNat).toNat ∧ s.2.2.1 17 (s.2.2.1 27 (o - 1).toNat).toNat < 128) ∨ (0 ≤ s.2.2.1 27 (o - 1).toNat ∧ s.2.2.1 27 (o - 1).toNat < 240 ∧ s.2.2.1 17 (s.2.2.1 27 (o - 1).toNat).toNat = 85 ∧ x ≠ 85 ∧ ∃ (P : Int → Int → Prop) (l : List Int), (∀ n y, P n y → s.2.2.1 17 n.toNat = c y ∧ 0 ≤ c y ∧ c y < 65536) ∧ ndCh (s.2.2.1 19) P (s.2.2.1 18 (s.2.2.1 27 (o - 1).toNat).toNat) l ∧ l.length < 1000 ∧ ∀ y ∈ l, c y ≠ x)
abbrev isPe (x : Int) : Prop := isPl x ∨ x = 69
abbrev isHo (x : Int) : Prop := x = 65 ∨ x = 85 ∨ x = 82
theorem Model_mayBegin_y {m : Nat} {h : ax_Hp} {s : mS} {c : Int → Int} {x o : Int} (ho : s.1 26 = o) (o0 : 0 ≤ o) (o1 : o ≤ 8) (x0 : 0 ≤ x) (x1 : x < 128) (hx : isPe x ∨ (isHo x ∧ o ≤ 5)) (hpar : parOk s c o x) : ax_F (m + 1) 172 [ax_A (some 24), ax_I (Int32.ofInt x)] (mH h s) = some (.inl (some (ax_I (Int32.ofInt 1))), mH h s) := by
  have fin : Model_mayBegin_jn84 (ax_F m) (some 24) (Int32.ofInt x) (mH h s) = some (.inl (some (ax_I (Int32.ofInt 1))), mH h s) := by
    unfold Model_mayBegin_jn84 Model_mayBegin_jn186
    rcases hpar with c1 | ⟨p0, p1, p2, p3, p4⟩ | ⟨p0, p1, p2, p3, P, l, q1, q2, q3, q4⟩
    · simp (disch := omega) only [↓mgi_26, ↓mgr_17, ↓mgr_27, mld_17, mld_27, Option.bind_some, ↓zi_lit, zi_sub, zi_le, zi_eq, ho]
      rw [if_pos c1, za_rz (Or.inr rfl)]
    · simp (disch := omega) only [↓mgi_26, ↓mgr_17, ↓mgr_27, mld_17, mld_27, Option.bind_some, ↓zi_lit, zi_sub, zi_le, zi_eq, ho]
      split
      · rw [za_rz (Or.inr rfl)]
      · rw [za_rz (Or.inr rfl)]
    · by_cases c1 : o ≤ 0
      · simp (disch := omega) only [↓mgi_26, ↓mgr_17, ↓mgr_27, mld_17, mld_27, Option.bind_some, ↓zi_lit, zi_sub, zi_le, zi_eq, ho]
        rw [if_pos c1, za_rz (Or.inr rfl)]
      · have := Model_mayBegin_l (m := m) (h := h) (s := s) (c := c) (P := P) (x := x) q1 x0 (by omega) l _ 1 ax_fuel q2 (Or.inr rfl) (by unfold ax_fuel; omega)
        rw [if_pos ⟨rfl, q4⟩] at this
        simp (disch := omega) only [↓mgi_26, ↓mgr_17, ↓mgr_27, mld_17, mld_27, Option.bind_some, ↓zi_lit, zi_sub, zi_le, zi_eq, ↓reduceIte, eq_self, ho, p2]
        rw [if_neg c1, if_neg p3]
        unfold Model_mayBegin_jn126
        simp (disch := omega) only [↓mgi_26, ↓mgr_18, ↓mgr_27, mld_18, mld_27, Option.bind_some, ↓zi_lit, zi_sub, ho]
        exact this
  rw [Model_mayBegin_F]
  rcases hx with ((e | e | e | e | e) | e) | ⟨e | e | e, ho5⟩ <;> subst e <;> first | (simp (disch := omega) only [Model_mayBegin_b, Model_mayBegin_jn41, Model_mayBegin_jn60, Model_mayBegin_jn65, mgi_26, Option.bind_some, ↓zi_lit, zi_le, zi_eq, ↓reduceIte, eq_self, Int.reduceEq, ho, fin, ho5]; done) | (simp (disch := omega) only [Model_mayBegin_b, Model_mayBegin_jn36, Model_mayBegin_jn41, Model_mayBegin_jn65, ↓zi_lit, zi_eq, ↓reduceIte, eq_self, Int.reduceEq, fin]; done)
theorem Model_mayBegin_n {m : Nat} {h : ax_Hp} {s : mS} {x o : Int} (ho : s.1 26 = o) (o0 : 0 ≤ o) (o1 : o ≤ 8) (x0 : 0 ≤ x) (x1 : x < 128) (hx : ¬ (isPe x ∨ (isHo x ∧ o ≤ 5))) : ax_F (m + 1) 172 [ax_A (some 24), ax_I (Int32.ofInt x)] (mH h s) = some (.inl (some (ax_I (Int32.ofInt 0))), mH h s) := by
  rw [Model_mayBegin_F]
  have n1 : ¬ x = 78 := fun z => hx (Or.inl (Or.inl (Or.inl z)))
  have n2 : ¬ x = 66 := fun z => hx (Or.inl (Or.inl (Or.inr (Or.inl z))))
  have n3 : ¬ x = 73 := fun z => hx (Or.inl (Or.inl (Or.inr (Or.inr (Or.inl z)))))
  have n4 : ¬ x = 76 := fun z => hx (Or.inl (Or.inl (Or.inr (Or.inr (Or.inr (Or.inl z))))))
  have n5 : ¬ x = 83 := fun z => hx (Or.inl (Or.inl (Or.inr (Or.inr (Or.inr (Or.inr z))))))
  have n6 : ¬ x = 69 := fun z => hx (Or.inl (Or.inr z))
  simp (disch := omega) only [Model_mayBegin_b, Model_mayBegin_jn41, Model_mayBegin_jn60, Model_mayBegin_jn65, mgi_26, Option.bind_some, ↓zi_lit, zi_le, zi_eq, ↓reduceIte, eq_self, Int.reduceEq, ho, n1, n2, n3, n4, n5, n6]
  by_cases e : isHo x
  · have o5 : ¬ o ≤ 5 := fun z => hx (Or.inr ⟨e, z⟩)
    rw [if_neg o5]
    rcases e with e | e | e
    · rw [if_pos e, za_rz (Or.inl rfl)]
    · rw [if_neg (show ¬ x = 65 by omega), if_pos e, za_rz (Or.inl rfl)]
    · rw [if_neg (show ¬ x = 65 by omega), if_neg (show ¬ x = 85 by omega), if_pos e, za_rz (Or.inl rfl)]
  · rw [if_neg (show ¬ x = 65 from fun z => e (Or.inl z)), if_neg (show ¬ x = 85 from fun z => e (Or.inr (Or.inl z))), if_neg (show ¬ x = 82 from fun z => e (Or.inr (Or.inr z))), za_rz (Or.inl rfl)]
/-- the parent is a U, and it has a branch with this letter already, or the letter is U -/
theorem Model_mayBegin_u {m : Nat} {h : ax_Hp} {s : mS} {c : Int → Int} {P : Int → Int → Prop} {x o : Int} {l : List Int} (ho : s.1 26 = o) (o0 : 0 < o) (o1 : o ≤ 8) (x0 : 0 ≤ x) (x1 : x < 128) (p0 : 0 ≤ s.2.2.1 27 (o - 1).toNat) (p1 : s.2.2.1 27 (o - 1).toNat < 240) (p2 : s.2.2.1 17 (s.2.2.1 27 (o - 1).toNat).toNat = 85) (q1 : ∀ n y, P n y → s.2.2.1 17 n.toNat = c y ∧ 0 ≤ c y ∧ c y < 65536) (q2 : ndCh (s.2.2.1 19) P (s.2.2.1 18 (s.2.2.1 27 (o - 1).toNat).toNat) l) (q3 : l.length < 1000) (q4 : x = 85 ∨ ∃ y ∈ l, c y = x) : ax_F (m + 1) 172 [ax_A (some 24), ax_I (Int32.ofInt x)] (mH h s) = some (.inl (some (ax_I (Int32.ofInt 0))), mH h s) := by
  by_cases hx : isPe x ∨ (isHo x ∧ o ≤ 5)
  · have fin : Model_mayBegin_jn84 (ax_F m) (some 24) (Int32.ofInt x) (mH h s) = some (.inl (some (ax_I (Int32.ofInt 0))), mH h s) := by
      unfold Model_mayBegin_jn84
      simp (disch := omega) only [↓mgi_26, ↓mgr_17, ↓mgr_27, mld_17, mld_27, Option.bind_some, ↓zi_lit, zi_sub, zi_le, zi_eq, ↓reduceIte, eq_self, ho, p2]
      rw [if_neg (show ¬ o ≤ 0 by omega)]
      have I := fun w hw => Model_mayBegin_l (m := m) (h := h) (s := s) (c := c) (P := P) (x := x) q1 x0 (by omega) l _ w ax_fuel q2 hw (by unfold ax_fuel; omega)
      unfold Model_mayBegin_jn126
      simp (disch := omega) only [↓mgi_26, ↓mgr_18, ↓mgr_27, mld_18, mld_27, Option.bind_some, ↓zi_lit, zi_sub, ho]
      by_cases e : x = 85
      · have := I 0 (Or.inl rfl)
        rw [if_neg (show ¬ ((0 : Int) = 1 ∧ ∀ y ∈ l, c y ≠ x) from fun z => absurd z.1 (by decide))] at this
        rw [if_pos e]
        exact this
      · have := I 1 (Or.inr rfl)
        rw [if_neg (show ¬ ((1 : Int) = 1 ∧ ∀ y ∈ l, c y ≠ x) from fun z => by
          obtain ⟨y, y1, y2⟩ := q4.resolve_left e
          exact z.2 y y1 y2)] at this
        rw [if_neg e]
        exact this
    rw [Model_mayBegin_F]
    rcases hx with ((e | e | e | e | e) | e) | ⟨e | e | e, ho5⟩ <;> subst e <;> first | (simp (disch := omega) only [Model_mayBegin_b, Model_mayBegin_jn41, Model_mayBegin_jn60, Model_mayBegin_jn65, mgi_26, Option.bind_some, ↓zi_lit, zi_le, zi_eq, ↓reduceIte, eq_self, Int.reduceEq, ho, fin, ho5]; done) | (simp (disch := omega) only [Model_mayBegin_b, Model_mayBegin_jn36, Model_mayBegin_jn41, Model_mayBegin_jn65, ↓zi_lit, zi_eq, ↓reduceIte, eq_self, Int.reduceEq, fin]; done)
  · exact Model_mayBegin_n ho (by omega) o1 x0 x1 hx
