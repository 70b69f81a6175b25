theorem spFl_nd {c ty : Int → Int} {lt : Int → Int → Int} : ∀ (k : Nat) (seen : List Int) (q : Int), 0 ≤ q → 0 ≤ spFd c ty lt k seen q → (∀ x ∈ spFl c ty lt k q, c x ∉ seen) ∧ (spFl c ty lt k q).Pairwise (fun x y => c x ≠ c y)
  | 0, _, q, q0, hb => absurd (show 0 ≤ -1 - q from hb) (by omega)
  | k + 1, seen, q, q0, hb => by
    rw [spFd_s] at hb
    rw [spFl_s]
    by_cases c1 : ¬ isSm (c q) ∨ c q ∈ seen
    · rw [if_pos c1] at hb; omega
    · rw [if_neg c1] at hb
      by_cases c0 : c (q + 1) ≠ 58
      · rw [if_pos c0] at hb; omega
      · rw [if_neg c0] at hb
        by_cases c2 : ty (q + 2) < 0
        · rw [if_pos c2] at hb; omega
        · rw [if_neg c2] at hb
          by_cases c5 : spFe c ty lt q < 0
          · rw [if_pos c5] at hb; omega
          · rw [if_neg c5] at hb
            by_cases c3 : c (spFe c ty lt q) = 41
            · rw [if_neg (show ¬ c (spFe c ty lt q) = 44 by omega)]
              exact ⟨fun x hx => by rw [List.mem_singleton] at hx; rw [hx]; exact fun z => c1 (Or.inr z), List.pairwise_singleton _ _⟩
            · rw [if_neg c3] at hb
              by_cases c4 : k = 0 ∨ c (spFe c ty lt q) ≠ 44
              · rw [if_pos c4] at hb; omega
              · rw [if_neg c4] at hb
                rw [if_pos (show c (spFe c ty lt q) = 44 by omega)]
                obtain ⟨i1, i2⟩ := spFl_nd k (c q :: seen) (spFe c ty lt q + 1) (by omega) hb
                refine ⟨fun x hx => ?_, List.pairwise_cons.mpr ⟨fun y hy => ?_, i2⟩⟩
                · rcases List.mem_cons.mp hx with rfl | hx
                  · exact fun z => c1 (Or.inr z)
                  · exact fun z => i1 x hx (List.mem_cons_of_mem _ z)
                · exact fun z => i1 y hy (by rw [← z]; exact List.mem_cons_self)
theorem fnd_un {c : Int → Int} {y : Int} : ∀ (l : List Int), l.Pairwise (fun x y => c x ≠ c y) → ∀ x ∈ l, c x = y → fnd c y l = x
  | [], _, x, hx, _ => absurd hx List.not_mem_nil
  | z :: l, h, x, hx, e => by
    have f : fnd c y (z :: l) = if c z = y then z else fnd c y l := rfl
    rw [f]
    obtain ⟨h1, h2⟩ := List.pairwise_cons.mp h
    rcases List.mem_cons.mp hx with rfl | hx
    · rw [if_pos e]
    · rw [if_neg (fun q => h1 x hx (by rw [q, e]))]
      exact fnd_un l h2 x hx e
theorem fnd_no {c : Int → Int} {y : Int} : ∀ (l : List Int), (∀ x ∈ l, c x ≠ y) → fnd c y l = -1
  | [], _ => rfl
  | z :: l, h => by
    have f : fnd c y (z :: l) = if c z = y then z else fnd c y l := rfl
    rw [f, if_neg (h z List.mem_cons_self)]
    exact fnd_no l (fun x hx => h x (List.mem_cons_of_mem _ hx))
theorem Model_fieldOf_l {m : Nat} {h : ax_Hp} {s : mS} {d : Int → Int} {P : Int → Int → Prop} {y : Int} (hP : ∀ n x, P n x → s.2.2.1 21 n.toNat = d x ∧ 0 ≤ d x ∧ d x < 128) (y0 : 0 ≤ y) (y1 : y < 128) : ∀ (l : List Int) (b found : Int) (fuel : Nat), ndCh (s.2.2.1 19) P b l → l.length < fuel → ∃ g : Int, Model_fieldOf_lp10 (ax_F m) fuel (some 24) (Int32.ofInt y) (Int32.ofInt found) (Int32.ofInt b) (mH h s) = some (.inl (some (ax_I (Int32.ofInt g))), mH h s) ∧ (((∀ x ∈ l, d x ≠ y) ∧ g = found) ∨ ∃ x ∈ l, d x = y ∧ P g x ∧ 0 ≤ g ∧ g < 240)
  | [], b, found, fuel, C, hf => by
    obtain ⟨fuel, rfl⟩ : ∃ g, fuel = g + 1 := ⟨fuel - 1, by omega⟩
    have hstep : Model_fieldOf_lp10 (ax_F m) (fuel + 1) = Model_fieldOf_bd10 (ax_F m) (Model_fieldOf_lp10 (ax_F m) fuel) := rfl
    have C : b = -1 := C
    subst C
    rw [hstep]
    unfold Model_fieldOf_bd10
    rw [if_pos (show Int32.ofInt (-1) < 0 by decide)]
    exact ⟨found, rfl, Or.inl ⟨fun x hx => absurd hx List.not_mem_nil, rfl⟩⟩
  | z :: l, b, found, fuel, C, hf => by
    obtain ⟨fuel, rfl⟩ : ∃ g, fuel = g + 1 := ⟨fuel - 1, by omega⟩
    have hstep : Model_fieldOf_lp10 (ax_F m) (fuel + 1) = Model_fieldOf_bd10 (ax_F m) (Model_fieldOf_lp10 (ax_F m) fuel) := rfl
    obtain ⟨c1, c2, c3, c4⟩ := C
    obtain ⟨k1, k2, k3⟩ := hP _ _ c3
    rw [List.length_cons] at hf
    have I := fun w => Model_fieldOf_l (m := m) (h := h) hP y0 y1 l _ w fuel c4 (by omega)
    rw [hstep]
    unfold Model_fieldOf_bd10
    rw [if_neg (show ¬ Int32.ofInt b < 0 from zi_n0 c1 (by omega)), mgr_21, Option.bind_some, mld_21 h s b c1 (by omega), Option.bind_some, k1]
    by_cases e : d z = y
    · rw [if_pos (show Int32.ofInt (d z) = Int32.ofInt y from by rw [e])]
      unfold Model_fieldOf_jn32
      rw [mgr_19, Option.bind_some, mld_19 h s b c1 (by omega), Option.bind_some]
      obtain ⟨g, g1, g2⟩ := I b
      refine ⟨g, g1, Or.inr ?_⟩
      rcases g2 with ⟨_, g3⟩ | ⟨x, x1, x2⟩
      · exact ⟨z, List.mem_cons_self, e, by rw [g3]; exact c3, by omega, by omega⟩
      · exact ⟨x, List.mem_cons_of_mem _ x1, x2⟩
    · rw [if_neg (show ¬ Int32.ofInt (d z) = Int32.ofInt y from by rw [zi_eq (by omega) (by omega) (by omega) (by omega)]; exact e)]
      unfold Model_fieldOf_jn32
      rw [mgr_19, Option.bind_some, mld_19 h s b c1 (by omega), Option.bind_some]
      obtain ⟨g, g1, g2⟩ := I found
      refine ⟨g, g1, ?_⟩
      rcases g2 with ⟨g3, g4⟩ | ⟨x, x1, x2⟩
      · refine Or.inl ⟨fun x hx => ?_, g4⟩
        rcases List.mem_cons.mp hx with rfl | hx
        · exact e
        · exact g3 x hx
      · exact Or.inr ⟨x, List.mem_cons_of_mem _ x1, x2⟩
/-- the field of the writer with this name: its node, -1 without one -/
theorem Model_fieldOf_z {m : Nat} {h : ax_Hp} {s : mS} {d : Int → Int} {P : Int → Int → Prop} {y n : Int} {l : List Int} (hP : ∀ n x, P n x → s.2.2.1 21 n.toNat = d x ∧ 0 ≤ d x ∧ d x < 128) (y0 : 0 ≤ y) (y1 : y < 128) (n0 : 0 ≤ n) (n1 : n < 240) (C : ndCh (s.2.2.1 19) P (s.2.2.1 18 n.toNat) l) (h6 : l.length ≤ 6) (hd : l.Pairwise (fun x y => d x ≠ d y)) : ∃ g : Int, ax_F (m + 1) 184 [ax_A (some 24), ax_I (Int32.ofInt n), ax_I (Int32.ofInt y)] (mH h s) = some (.inl (some (ax_I (Int32.ofInt g))), mH h s) ∧ ((fnd d y l = -1 ∧ g = -1) ∨ (fnd d y l ≠ -1 ∧ P g (fnd d y l) ∧ 0 ≤ g ∧ g < 240 ∧ fnd d y l ∈ l) ∨ (fnd d y l = -1 ∧ 0 ≤ g ∧ g < 240 ∧ ∃ x ∈ l, x = -1)) := by
  rw [Model_fieldOf_F]
  unfold Model_fieldOf_b
  rw [mgr_18, Option.bind_some, mld_18 h s n n0 (by omega), Option.bind_some]
  obtain ⟨g, g1, g2⟩ := Model_fieldOf_l (m := m) (h := h) hP y0 y1 l _ (-1) ax_fuel C (by unfold ax_fuel; omega)
  refine ⟨g, g1, ?_⟩
  rcases g2 with ⟨g3, g4⟩ | ⟨x, x1, x2, x3, x4⟩
  · exact Or.inl ⟨fnd_no l g3, g4⟩
  · have e := fnd_un l hd x x1 x2
    by_cases w : x = -1
    · exact Or.inr (Or.inr ⟨by rw [e]; exact w, x4.1, x4.2, x, x1, w⟩)
    · exact Or.inr (Or.inl ⟨by rw [e]; exact w, by rw [e]; exact x3, x4.1, x4.2, by rw [e]; exact x1⟩)
theorem Rn_21 {m : Nat} {h : ax_Hp} {s : mS} {P : Int → Int → Prop} {q : Int → Bool} {r : Int} (r0 : 0 ≤ r) (r1 : r < 120) (hP : ∀ n x, P n x → 120 ≤ n ∧ n < 240 ∧ fbt s.2.2.2 r (n - 120) = q x) : ∀ (l : List Int) (b : Int) (all : Bool) (fuel : Nat), ndCh (s.2.2.1 19) P b l → l.length < fuel → Model_readsNode_lp21 (ax_F (m + 1)) fuel (some 24) (Int32.ofInt r) (Int32.ofInt (bI all)) (Int32.ofInt b) (mH h s) = some (.inl (some (ax_I (Int32.ofInt (bI (all && l.all q))))), mH h s)
  | [], b, all, fuel, C, hf => by
    obtain ⟨fuel, rfl⟩ : ∃ g, fuel = g + 1 := ⟨fuel - 1, by omega⟩
    have hstep : Model_readsNode_lp21 (ax_F (m + 1)) (fuel + 1) = Model_readsNode_bd21 (ax_F (m + 1)) (Model_readsNode_lp21 (ax_F (m + 1)) fuel) := rfl
    have C : b = -1 := C
    subst C
    rw [hstep]
    unfold Model_readsNode_bd21
    rw [if_pos (show Int32.ofInt (-1) < 0 by decide), List.all_nil, Bool.and_true]
    exact za_rz (bI_01 _)
  | z :: l, b, all, fuel, C, hf => by
    obtain ⟨fuel, rfl⟩ : ∃ g, fuel = g + 1 := ⟨fuel - 1, by omega⟩
    have hstep : Model_readsNode_lp21 (ax_F (m + 1)) (fuel + 1) = Model_readsNode_bd21 (ax_F (m + 1)) (Model_readsNode_lp21 (ax_F (m + 1)) fuel) := rfl
    obtain ⟨c1, c2, c3, c4⟩ := C
    obtain ⟨k1, k2, k3⟩ := hP _ _ c3
    rw [List.length_cons] at hf
    have I := fun w => Rn_21 (m := m) (h := h) r0 r1 hP l _ w fuel c4 (by omega)
    rw [hstep, List.all_cons]
    unfold Model_readsNode_bd21 Model_readsNode_jn44 Model_readsNode_jn45
    rw [if_neg (show ¬ Int32.ofInt b < 0 from zi_n0 c1 (by omega))]
    cases all with
    | false =>
      rw [if_pos (show Int32.ofInt (bI false) = 0 from rfl), mgr_19, Option.bind_some, mld_19 h s b c1 (by omega), Option.bind_some, Bool.false_and]
      have := I false
      rw [Bool.false_and] at this
      exact this
    | true =>
      have kn := Model_knows_z (m := m) (h := h) (s := s) (r := r) (k := b - 120) r0 r1 (by omega) (by omega)
      rw [show 120 + (b - 120) = b by omega, k3] at kn
      rw [if_neg (show ¬ Int32.ofInt (bI true) = 0 from by decide), mS_on, pl_ci kn, Bool.true_and]
      cases q z with
      | false =>
        rw [if_pos (show Int32.ofInt (bI false) = 0 from rfl), mgr_19, Option.bind_some, mld_19 h s b c1 (by omega), Option.bind_some, Bool.false_and]
        have := I false
        rw [Bool.false_and] at this
        exact this
      | true =>
        rw [if_neg (show ¬ Int32.ofInt (bI true) = 0 from by decide), mgr_19, Option.bind_some, mld_19 h s b c1 (by omega), Option.bind_some]
        exact I true
theorem Rn_82 {m : Nat} {h : ax_Hp} {s : mS} {P : Int → Int → Prop} {q : Int → Bool} {k : Int} (k0 : 0 ≤ k) (k1 : k < 120) (hP : ∀ n x, P n x → 0 ≤ n ∧ n < 120 ∧ fbt s.2.2.2 n k = q x) : ∀ (l : List Int) (b : Int) (any : Bool) (fuel : Nat), ndCh (s.2.2.1 19) P b l → l.length < fuel → Model_readsNode_lp82 (ax_F (m + 1)) fuel (some 24) (Int32.ofInt (120 + k)) (Int32.ofInt (bI any)) (Int32.ofInt b) (mH h s) = some (.inl (some (ax_I (Int32.ofInt (bI (any || l.any q))))), mH h s)
  | [], b, any, fuel, C, hf => by
    obtain ⟨fuel, rfl⟩ : ∃ g, fuel = g + 1 := ⟨fuel - 1, by omega⟩
    have hstep : Model_readsNode_lp82 (ax_F (m + 1)) (fuel + 1) = Model_readsNode_bd82 (ax_F (m + 1)) (Model_readsNode_lp82 (ax_F (m + 1)) fuel) := rfl
    have C : b = -1 := C
    subst C
    rw [hstep]
    unfold Model_readsNode_bd82
    rw [if_pos (show Int32.ofInt (-1) < 0 by decide), List.any_nil, Bool.or_false]
    exact za_rz (bI_01 _)
  | z :: l, b, any, fuel, C, hf => by
    obtain ⟨fuel, rfl⟩ : ∃ g, fuel = g + 1 := ⟨fuel - 1, by omega⟩
    have hstep : Model_readsNode_lp82 (ax_F (m + 1)) (fuel + 1) = Model_readsNode_bd82 (ax_F (m + 1)) (Model_readsNode_lp82 (ax_F (m + 1)) fuel) := rfl
    obtain ⟨c1, c2, c3, c4⟩ := C
    obtain ⟨j1, j2, j3⟩ := hP _ _ c3
    rw [List.length_cons] at hf
    have I := fun w => Rn_82 (m := m) (h := h) k0 k1 hP l _ w fuel c4 (by omega)
    rw [hstep, List.any_cons]
    unfold Model_readsNode_bd82 Model_readsNode_jn102 Model_readsNode_jn107
    rw [if_neg (show ¬ Int32.ofInt b < 0 from zi_n0 c1 (by omega))]
    cases any with
    | true =>
      rw [if_neg (show ¬ Int32.ofInt (bI true) = 0 from by decide), mgr_19, Option.bind_some, mld_19 h s b c1 (by omega), Option.bind_some, Bool.true_or]
      have := I true
      rw [Bool.true_or] at this
      exact this
    | false =>
      have kn := Model_knows_z (m := m) (h := h) (s := s) (r := b) (k := k) (by omega) (by omega) k0 k1
      rw [j3] at kn
      rw [if_pos (show Int32.ofInt (bI false) = 0 from rfl), mS_on, pl_ci kn, Bool.false_or]
      cases q z with
      | false =>
        rw [if_pos (show Int32.ofInt (bI false) = 0 from rfl), mgr_19, Option.bind_some, mld_19 h s b c1 (by omega), Option.bind_some]
        exact I false
      | true =>
        rw [if_neg (show ¬ Int32.ofInt (bI true) = 0 from by decide), mgr_19, Option.bind_some, mld_19 h s b c1 (by omega), Option.bind_some, Bool.true_or]
        have := I true
        rw [Bool.true_or] at this
        exact this
