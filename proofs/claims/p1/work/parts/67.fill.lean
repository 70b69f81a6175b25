theorem arL_ext {n : Nat} {f g : Nat → Int} (e : ∀ j, j < n → f j = g j) : arL n f = arL n g := by
  unfold arL
  refine List.map_congr_left fun j hj => ?_
  rw [e j (List.mem_range.mp hj)]
theorem ax_set_set (h : ax_Hp) (a : Nat) (o o' : ax_Ob) : ax_set (ax_set h a o) a o' = ax_set h a o' := by
  refine Prod.ext rfl (Prod.ext rfl ?_)
  funext q
  show (if q = a then some o' else if q = a then some o else h.2.2 q) = if q = a then some o' else h.2.2 q
  by_cases c : q = a
  · rw [if_pos c, if_pos c]
  · rw [if_neg c, if_neg c, if_neg c]
theorem ax_set_id {h : ax_Hp} {a : Nat} {o : ax_Ob} (e : h.2.2 a = some o) : ax_set h a o = h := by
  refine Prod.ext rfl (Prod.ext rfl ?_)
  funext q
  show (if q = a then some o else h.2.2 q) = h.2.2 q
  by_cases c : q = a
  · rw [if_pos c, c, e]
  · rw [if_neg c]
theorem Arrays_fill_l {m n a : Nat} {v : Int} {h : ax_Hp} {f : Nat → Int} (hn : n < 1000000) : ∀ k i fuel : Nat, i + k = n → k < fuel → Arrays_fill_lp5 (ax_F m) fuel (some a) (Int32.ofInt v) (Int32.ofInt i) (Int32.ofInt n) (ax_set h a (.inr (1, arL n (fun j => if j < i then v else f j)))) = some (.inl none, ax_set h a (.inr (1, arL n (fun _ => v)))) := by
  intro k
  induction k with
  | zero =>
    intro i fuel hi hf
    obtain ⟨fuel, rfl⟩ : ∃ g, fuel = g + 1 := ⟨fuel - 1, by omega⟩
    have hstep : Arrays_fill_lp5 (ax_F m) (fuel + 1) = Arrays_fill_bd5 (ax_F m) (Arrays_fill_lp5 (ax_F m) fuel) := rfl
    rw [hstep]
    unfold Arrays_fill_bd5
    simp (disch := omega) only [zi_le]
    rw [if_pos (by omega)]
    rw [arL_ext (f := fun j => if j < i then v else f j) (g := fun _ => v) (fun j hj => if_pos (by omega))]
    rfl
  | succ k ih =>
    intro i fuel hi hf
    obtain ⟨fuel, rfl⟩ : ∃ g, fuel = g + 1 := ⟨fuel - 1, by omega⟩
    have hstep : Arrays_fill_lp5 (ax_F m) (fuel + 1) = Arrays_fill_bd5 (ax_F m) (Arrays_fill_lp5 (ax_F m) fuel) := rfl
    rw [hstep]
    unfold Arrays_fill_bd5
    simp (disch := omega) only [zi_le]
    rw [if_neg (by omega), za_st (n := n) pl_set (by omega) (by omega) (by omega), Option.bind_some, ax_set_set, zi_lit, zi_add]
    have := ih (i + 1) fuel (by omega) (by omega)
    rw [arL_ext (f := fun m => if m = (i : Int).toNat then v else if m < i then v else f m) (g := fun j => if j < i + 1 then v else f j) (fun j hj => by
      by_cases c : j = i
      · rw [if_pos (by omega), if_pos (by omega)]
      · rw [if_neg (by omega)]
        by_cases c2 : j < i
        · rw [if_pos c2, if_pos (by omega)]
        · rw [if_neg c2, if_neg (by omega)])]
    exact this
theorem Arrays_fill_e {m n a : Nat} {v : Int} {h : ax_Hp} {f : Nat → Int} (hn : n < 1000000) (e : h.2.2 a = some (.inr (1, arL n f))) : ax_F (m + 1) 25 [ax_A (some a), ax_I (Int32.ofInt v)] h = some (.inl none, ax_set h a (.inr (1, arL n (fun _ => v)))) := by
  rw [Arrays_fill_F]
  unfold Arrays_fill_b
  rw [pl_len e, Option.bind_some, arL_len]
  have := Arrays_fill_l (m := m) (a := a) (v := v) (h := h) (f := f) hn n 0 ax_fuel (by omega) (by unfold ax_fuel; omega)
  rw [arL_ext (f := fun j => if j < 0 then v else f j) (g := f) (fun j _ => if_neg (by omega)), ax_set_id e] at this
  exact this
