theorem Sa_brL {n : Nat} {h : ax_Hp} {sc l : Nat} {c : Int → Int} {fe fn fu : Nat → Int} {x : Int} (S : schA h sc l c fe fn fu) (x0 : -100 ≤ x) (x1 : x < 128) : ∀ (fl : List Int) (i : Nat) (fuel : Nat), fl ≠ [] → i + fl.length ≤ 4 → nxC fn fl → (∀ y ∈ fl, 0 ≤ y ∧ y < l) → (x < 0 ∨ (i : Int) ≤ x) → fl.length < fuel → Schema_branch_lp9 (ax_F (n + 1)) fuel (some sc) (Int32.ofInt x) (Int32.ofInt (fl.getD 0 0)) (Int32.ofInt i) h = some (.inl (some (ax_I (Int32.ofInt (if 0 ≤ x ∧ x - i < fl.length then fl.getD (x - i).toNat 0 else -1)))), h) := by
  have l1 := (Sa_lt S).1
  intro fl
  induction fl with
  | nil => intro i fuel z; exact absurd rfl z
  | cons y fl ih =>
    intro i fuel _ hi hn hy hx hf
    obtain ⟨fuel, rfl⟩ : ∃ g, fuel = g + 1 := ⟨fuel - 1, by omega⟩
    have hstep : Schema_branch_lp9 (ax_F (n + 1)) (fuel + 1) = Schema_branch_bd9 (ax_F (n + 1)) (Schema_branch_lp9 (ax_F (n + 1)) fuel) := rfl
    rw [List.length_cons] at hi hf ⊢
    have y0 := hy y List.mem_cons_self
    have hg : (y :: fl).getD 0 0 = y := rfl
    have nx1 := Sa_next (m := n) S y0.1 y0.2
    rw [hstep, hg]
    unfold Schema_branch_bd9
    rw [if_neg (show ¬ (4 : Int32) ≤ Int32.ofInt i from by rw [show (4 : Int32) = Int32.ofInt 4 from rfl, zi_le (by omega) (by omega) (by omega) (by omega)]; omega), if_neg (show ¬ Int32.ofInt y = -1 from by rw [show (-1 : Int32) = Int32.ofInt (-1) from rfl, zi_eq (by omega) (by omega) (by omega) (by omega)]; omega)]
    by_cases c1 : (i : Int) = x
    · rw [if_pos (show Int32.ofInt i = Int32.ofInt x from by rw [c1]), if_pos (by omega), show (x - (i : Int)).toNat = 0 by omega]
      rfl
    · rw [if_neg (show ¬ Int32.ofInt i = Int32.ofInt x from by rw [zi_eq (by omega) (by omega) (by omega) (by omega)]; exact c1), Sa_on S, pl_ci nx1, show (1 : Int32) = Int32.ofInt 1 from rfl, zi_add]
      cases fl with
      | nil =>
        have hn1 : fn y.toNat = -1 := hn
        obtain ⟨fuel, rfl⟩ : ∃ g, fuel = g + 1 := ⟨fuel - 1, by omega⟩
        have hstep : Schema_branch_lp9 (ax_F (n + 1)) (fuel + 1) = Schema_branch_bd9 (ax_F (n + 1)) (Schema_branch_lp9 (ax_F (n + 1)) fuel) := rfl
        rw [hn1, hstep, if_neg (show ¬ (0 ≤ x ∧ x - (i : Int) < (([] : List Int).length + 1 : Nat)) from by rw [List.length_nil]; omega)]
        unfold Schema_branch_bd9
        by_cases c4 : (4 : Int32) ≤ Int32.ofInt (i + 1)
        · rw [if_pos c4]; rfl
        · rw [if_neg c4, if_pos (show Int32.ofInt (-1) = -1 from rfl)]; rfl
      | cons z fl =>
        have hn1 : fn y.toNat = z := hn.1
        rw [hn1]
        have := ih (i + 1) fuel (by simp) (by omega) hn.2 (fun w hw => hy w (List.mem_cons_of_mem _ hw)) (by omega) (by omega)
        rw [show (z :: fl).getD 0 0 = z from rfl] at this
        rw [show (i : Int) + 1 = ((i + 1 : Nat) : Int) by omega, this]
        by_cases c2 : 0 ≤ x ∧ x - (i : Int) < (((z :: fl).length + 1 : Nat) : Int)
        · rw [if_pos c2, if_pos (by omega), show (x - (i : Int)).toNat = (x - ((i + 1 : Nat) : Int)).toNat + 1 by omega]
          rfl
        · rw [if_neg c2, if_neg (by omega)]
theorem Sa_br {n : Nat} {h : ax_Hp} {sc l : Nat} {c : Int → Int} {fe fn fu : Nat → Int} {t x : Int} {fl : List Int} (S : schA h sc l c fe fn fu) (x0 : -100 ≤ x) (x1 : x < 128) (hf : ∃ k, fl = (t + 2) :: k) (h4 : fl.length ≤ 4) (hn : nxC fn fl) (hy : ∀ y ∈ fl, 0 ≤ y ∧ y < l) : ax_F (n + 2) 62 [ax_A (some sc), ax_I (Int32.ofInt t), ax_I (Int32.ofInt x)] h = some (.inl (some (ax_I (Int32.ofInt (if 0 ≤ x ∧ x < fl.length then fl.getD x.toNat 0 else -1)))), h) := by
  obtain ⟨k, rfl⟩ := hf
  rw [Schema_branch_F]
  unfold Schema_branch_b
  rw [Sa_on S, pl_ci Sc_fst]
  have := Sa_brL (n := n) (x := x) S x0 x1 ((t + 2) :: k) 0 ax_fuel (by simp) (by omega) hn hy (by omega) (by unfold ax_fuel; omega)
  rw [show x - ((0 : Nat) : Int) = x by omega] at this
  exact this
theorem Sa_bcL {n : Nat} {h : ax_Hp} {sc l : Nat} {c : Int → Int} {fe fn fu : Nat → Int} (S : schA h sc l c fe fn fu) : ∀ (fl : List Int) (i : Nat) (fuel : Nat), fl ≠ [] → i + fl.length ≤ 4 → nxC fn fl → (∀ y ∈ fl, 0 ≤ y ∧ y < l) → fl.length < fuel → Schema_branchCount_lp11 (ax_F (n + 1)) fuel (some sc) (Int32.ofInt i) (Int32.ofInt (fl.getD 0 0)) (Int32.ofInt i) h = some (.inl (some (ax_I (Int32.ofInt ((i + fl.length : Nat) : Int)))), h) := by
  have l1 := (Sa_lt S).1
  intro fl
  induction fl with
  | nil => intro i fuel z; exact absurd rfl z
  | cons y fl ih =>
    intro i fuel _ hi hn hy hf
    obtain ⟨fuel, rfl⟩ : ∃ g, fuel = g + 1 := ⟨fuel - 1, by omega⟩
    have hstep : Schema_branchCount_lp11 (ax_F (n + 1)) (fuel + 1) = Schema_branchCount_bd11 (ax_F (n + 1)) (Schema_branchCount_lp11 (ax_F (n + 1)) fuel) := rfl
    rw [List.length_cons] at hi hf ⊢
    have y0 := hy y List.mem_cons_self
    have hg : (y :: fl).getD 0 0 = y := rfl
    have nx1 := Sa_next (m := n) S y0.1 y0.2
    rw [hstep, hg]
    unfold Schema_branchCount_bd11
    rw [if_neg (show ¬ (4 : Int32) ≤ Int32.ofInt i from by rw [show (4 : Int32) = Int32.ofInt 4 from rfl, zi_le (by omega) (by omega) (by omega) (by omega)]; omega), if_neg (show ¬ Int32.ofInt y = -1 from by rw [show (-1 : Int32) = Int32.ofInt (-1) from rfl, zi_eq (by omega) (by omega) (by omega) (by omega)]; omega), Sa_on S, pl_ci nx1, show (1 : Int32) = Int32.ofInt 1 from rfl, zi_add]
    cases fl with
    | nil =>
      have hn1 : fn y.toNat = -1 := hn
      obtain ⟨fuel, rfl⟩ : ∃ g, fuel = g + 1 := ⟨fuel - 1, by omega⟩
      have hstep : Schema_branchCount_lp11 (ax_F (n + 1)) (fuel + 1) = Schema_branchCount_bd11 (ax_F (n + 1)) (Schema_branchCount_lp11 (ax_F (n + 1)) fuel) := rfl
      rw [hn1, hstep]
      unfold Schema_branchCount_bd11
      by_cases c4 : (4 : Int32) ≤ Int32.ofInt (i + 1)
      · rw [if_pos c4]; rfl
      · rw [if_neg c4, if_pos (show Int32.ofInt (-1) = -1 from rfl)]; rfl
    | cons z fl =>
      have hn1 : fn y.toNat = z := hn.1
      rw [hn1]
      have := ih (i + 1) fuel (by simp) (by omega) hn.2 (fun w hw => hy w (List.mem_cons_of_mem _ hw)) (by omega)
      rw [show (z :: fl).getD 0 0 = z from rfl] at this
      rw [show (i : Int) + 1 = ((i + 1 : Nat) : Int) by omega, this, show i + 1 + (z :: fl).length = i + ((z :: fl).length + 1) by omega]
theorem Sa_bc {n : Nat} {h : ax_Hp} {sc l : Nat} {c : Int → Int} {fe fn fu : Nat → Int} {t : Int} {fl : List Int} (S : schA h sc l c fe fn fu) (hf : ∃ k, fl = (t + 2) :: k) (h4 : fl.length ≤ 4) (hn : nxC fn fl) (hy : ∀ y ∈ fl, 0 ≤ y ∧ y < l) : ax_F (n + 2) 121 [ax_A (some sc), ax_I (Int32.ofInt t)] h = some (.inl (some (ax_I (Int32.ofInt fl.length))), h) := by
  obtain ⟨k, rfl⟩ := hf
  rw [Schema_branchCount_F]
  unfold Schema_branchCount_b
  rw [Sa_on S, pl_ci Sc_fst]
  have := Sa_bcL (n := n) S ((t + 2) :: k) 0 ax_fuel (by simp) (by omega) hn hy (by unfold ax_fuel; omega)
  rw [Nat.zero_add] at this
  exact this
/-- the first of the places at which y stands, -1 without one -/
def fnd (c : Int → Int) (y : Int) : List Int → Int
  | [] => -1
  | x :: l => if c x = y then x else fnd c y l
theorem Sa_fnL {n : Nat} {h : ax_Hp} {sc l : Nat} {c : Int → Int} {fe fn fu : Nat → Int} {x : Int} (S : schA h sc l c fe fn fu) (x0 : -1 ≤ x) (x1 : x < 128) : ∀ (fl : List Int) (i : Nat) (fuel : Nat), fl ≠ [] → i + fl.length ≤ 6 → nxC fn fl → (∀ y ∈ fl, 0 ≤ y ∧ y < l) → fl.length < fuel → Schema_fieldNamed_lp9 (ax_F (n + 1)) fuel (some sc) (Int32.ofInt x) (Int32.ofInt (fl.getD 0 0)) (Int32.ofInt i) h = some (.inl (some (ax_I (Int32.ofInt (fnd c x fl)))), h) := by
  obtain ⟨g1, g2, g3, g4⟩ := Sa_lt S
  intro fl
  induction fl with
  | nil => intro i fuel z; exact absurd rfl z
  | cons y fl ih =>
    intro i fuel _ hi hn hy hf
    obtain ⟨fuel, rfl⟩ : ∃ g, fuel = g + 1 := ⟨fuel - 1, by omega⟩
    have hstep : Schema_fieldNamed_lp9 (ax_F (n + 1)) (fuel + 1) = Schema_fieldNamed_bd9 (ax_F (n + 1)) (Schema_fieldNamed_lp9 (ax_F (n + 1)) fuel) := rfl
    rw [List.length_cons] at hi hf
    have y0 := hy y List.mem_cons_self
    have cb := g3 y
    have hg : (y :: fl).getD 0 0 = y := rfl
    have nx1 := Sa_next (m := n) S y0.1 y0.2
    obtain ⟨tr, r1, r2, r3⟩ := Sa_row (m := n) S (i := y) (by omega) (by omega)
    rw [atC_in y0.1 y0.2] at r3
    rw [hstep, hg]
    unfold Schema_fieldNamed_bd9
    rw [if_neg (show ¬ (6 : Int32) ≤ Int32.ofInt i from by rw [show (6 : Int32) = Int32.ofInt 6 from rfl, zi_le (by omega) (by omega) (by omega) (by omega)]; omega), if_neg (show ¬ Int32.ofInt y = -1 from by rw [show (-1 : Int32) = Int32.ofInt (-1) from rfl, zi_eq (by omega) (by omega) (by omega) (by omega)]; omega), r1, Option.bind_some, r2, pl_ci r3]
    by_cases c1 : c y = x
    · rw [if_pos (show Int32.ofInt (c y) = Int32.ofInt x from by rw [c1]), show fnd c x (y :: fl) = y from if_pos c1]
      rfl
    · rw [if_neg (show ¬ Int32.ofInt (c y) = Int32.ofInt x from by rw [zi_eq (by omega) (by omega) (by omega) (by omega)]; exact c1), show fnd c x (y :: fl) = fnd c x fl from if_neg c1, Sa_on S, pl_ci nx1, show (1 : Int32) = Int32.ofInt 1 from rfl, zi_add]
      cases fl with
      | nil =>
        have hn1 : fn y.toNat = -1 := hn
        obtain ⟨fuel, rfl⟩ : ∃ g, fuel = g + 1 := ⟨fuel - 1, by omega⟩
        have hstep : Schema_fieldNamed_lp9 (ax_F (n + 1)) (fuel + 1) = Schema_fieldNamed_bd9 (ax_F (n + 1)) (Schema_fieldNamed_lp9 (ax_F (n + 1)) fuel) := rfl
        rw [hn1, hstep]
        unfold Schema_fieldNamed_bd9
        by_cases c4 : (6 : Int32) ≤ Int32.ofInt (i + 1)
        · rw [if_pos c4]; rfl
        · rw [if_neg c4, if_pos (show Int32.ofInt (-1) = -1 from rfl)]; rfl
      | cons z fl =>
        have hn1 : fn y.toNat = z := hn.1
        rw [hn1]
        have := ih (i + 1) fuel (by simp) (by omega) hn.2 (fun w hw => hy w (List.mem_cons_of_mem _ hw)) (by omega)
        rw [show (z :: fl).getD 0 0 = z from rfl] at this
        rw [show (i : Int) + 1 = ((i + 1 : Nat) : Int) by omega, this]
theorem Sa_fn {n : Nat} {h : ax_Hp} {sc l : Nat} {c : Int → Int} {fe fn fu : Nat → Int} {t x : Int} {fl : List Int} (S : schA h sc l c fe fn fu) (x0 : -1 ≤ x) (x1 : x < 128) (hf : ∃ k, fl = (t + 2) :: k) (h6 : fl.length ≤ 6) (hn : nxC fn fl) (hy : ∀ y ∈ fl, 0 ≤ y ∧ y < l) : ax_F (n + 2) 82 [ax_A (some sc), ax_I (Int32.ofInt t), ax_I (Int32.ofInt x)] h = some (.inl (some (ax_I (Int32.ofInt (fnd c x fl)))), h) := by
  obtain ⟨k, rfl⟩ := hf
  rw [Schema_fieldNamed_F]
  unfold Schema_fieldNamed_b
  rw [Sa_on S, pl_ci Sc_fst]
  exact Sa_fnL (n := n) S x0 x1 ((t + 2) :: k) 0 ax_fuel (by simp) (by omega) hn hy (by unfold ax_fuel; omega)
theorem Sa_fd {n : Nat} {h : ax_Hp} {sc l : Nat} {c : Int → Int} {fe fn fu : Nat → Int} {x : Int} {D : Nat} (S : schA h sc l c fe fn fu) (x0 : 0 ≤ x) (hT : 0 ≤ spTy c D (x + 2)) (he : fe (x + 2).toNat = spTy c D (x + 2)) : ax_F (n + 2) 83 [ax_A (some sc), ax_I (Int32.ofInt x)] h = some (.inl (some (ax_I (Int32.ofInt (spGv c D x)))), h) := by
  obtain ⟨g1, g2, g3, g4⟩ := Sa_lt S
  have tg := spTy_gt g2 D (x + 2) (by omega) hT
  obtain ⟨tr, r1, r2, r3⟩ := Sa_row (m := n) S (i := spTy c D (x + 2)) (by omega) (by omega)
  rw [Schema_fieldDefault_F]
  unfold Schema_fieldDefault_b
  rw [Sa_on S, pl_ci Sc_fty, Sa_on S, pl_ci (Sa_end S (by omega) (by omega)), he, r1, Option.bind_some, r2, pl_ci r3]
  unfold spGv
  have cb := g3 (spTy c D (x + 2))
  by_cases d : c (spTy c D (x + 2)) = 61
  · have := g4 _ (show c (spTy c D (x + 2)) ≠ 0 by omega)
    rw [atC_in hT this, if_pos d, d, if_pos (show Int32.ofInt 61 = 61 from rfl), show (1 : Int32) = Int32.ofInt 1 from rfl, zi_add]
    rfl
  · rw [if_neg d, if_neg (show ¬ Int32.ofInt (atC l c (spTy c D (x + 2))) = 61 from ?_)]
    · rfl
    · unfold atC
      rw [show (61 : Int32) = Int32.ofInt 61 from rfl]
      split
      · rw [zi_eq (by omega) (by omega) (by omega) (by omega)]; exact d
      · decide
