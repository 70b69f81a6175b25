/-- the row at a (items at b, room for cap) holds xs -/
def rowIs (h : ax_Hp) (a b cap : Nat) (xs : List Int32) : Prop := ∃ its : List ax_T, isRow h a b its xs.length ∧ its.length = cap ∧ its.take xs.length = xs.map ax_I
theorem rowIs_kept {h h' : ax_Hp} {a b cap : Nat} {xs : List Int32} (R : rowIs h a b cap xs) (h1 : h'.2.2 a = h.2.2 a) (h2 : h'.2.2 b = h.2.2 b) : rowIs h' a b cap xs := by
  obtain ⟨its, ⟨r1, r2, r3⟩, r4⟩ := R
  exact ⟨its, ⟨h1.trans r1, h2.trans r2, r3⟩, r4⟩
theorem Row_room_i {m : Nat} {h : ax_Hp} {a b cap : Nat} {xs : List Int32} (R : rowIs h a b cap xs) : ax_F (m + 1) 7 [ax_A (some a)] h = some (.inl (some (ax_I (Int32.ofNat (cap - xs.length)))), h) := by
  obtain ⟨its, r1, r2, r3⟩ := R
  rw [Row_room_e r1, r2]
theorem rowIs_obj {h : ax_Hp} {a b cap : Nat} {xs : List Int32} (R : rowIs h a b cap xs) : h.2.2 a = some (.inl (2, [ax_A (some b), ax_I (Int32.ofNat xs.length)])) := by
  obtain ⟨its, r1, r2, r3⟩ := R
  exact r1.1
theorem rowIs_le {h : ax_Hp} {a b cap : Nat} {xs : List Int32} (R : rowIs h a b cap xs) : xs.length ≤ cap := by
  obtain ⟨its, r1, r2, r3⟩ := R
  rw [← r2]
  exact r1.2.2.1
/-- nothing but the cells a and b has changed -/
def but2 (h h' : ax_Hp) (a b : Nat) : Prop := h'.1 = h.1 ∧ h'.2.1 = h.2.1 ∧ ∀ q, q ≠ a → q ≠ b → h'.2.2 q = h.2.2 q
theorem but2_refl (h : ax_Hp) (a b : Nat) : but2 h h a b := ⟨rfl, rfl, fun _ _ _ => rfl⟩
theorem but2.trans {h h' h'' : ax_Hp} {a b : Nat} (u : but2 h h' a b) (w : but2 h' h'' a b) : but2 h h'' a b := ⟨w.1.trans u.1, w.2.1.trans u.2.1, fun q h1 h2 => (w.2.2 q h1 h2).trans (u.2.2 q h1 h2)⟩
theorem Row_add_i {m : Nat} {h : ax_Hp} {a b cap : Nat} {xs : List Int32} {v : Int32} (R : rowIs h a b cap xs) (hn : xs.length < cap) : ∃ h', ax_F (m + 1) 8 [ax_A (some a), ax_I v] h = some (.inl (some (ax_I 1)), h') ∧ rowIs h' a b cap (xs ++ [v]) ∧ but2 h h' a b := by
  obtain ⟨its, r1, r2, r3⟩ := R
  have hlt : xs.length < its.length := by rw [r2]; exact hn
  refine ⟨_, Row_add_e r1 hlt, ⟨its.set xs.length (ax_I v), ?_, ?_, ?_⟩, rfl, rfl, fun q h1 h2 => rowAdd_ne h1 h2⟩
  · have := isRow_add (v := v) r1 hlt
    rw [List.length_append]
    exact this
  · rw [List.length_set, r2]
  · rw [List.length_append, List.length_singleton, List.take_succ, List.take_set_of_le (Nat.le_refl _), r3, List.getElem?_set_self hlt, List.map_append]
    rfl
theorem Row_clear_i {m : Nat} {h : ax_Hp} {a b cap : Nat} {xs : List Int32} (R : rowIs h a b cap xs) : ∃ h', ax_F (m + 1) 10 [ax_A (some a)] h = some (.inl (some (ax_I (Int32.ofNat xs.length))), h') ∧ rowIs h' a b cap [] ∧ but2 h h' a b := by
  obtain ⟨its, r1, r2, r3⟩ := R
  refine ⟨_, Row_clear_e r1, ⟨its, isRow_clear r1, r2, by rw [List.length_nil, List.take_zero]; rfl⟩, rfl, rfl, fun q h1 h2 => pl_ne h1⟩
/-- the i-th byte of a long, as the class takes it -/
def byC (v : Int64) (i : Nat) : Int32 := ((((v.toUInt64 >>> ((8 * Int32.ofNat i).toInt64.toUInt64 &&& Int64.toUInt64 63)).toInt64).toInt32) &&& 255)
theorem Desk_byteOf_e {m : Nat} {v : Int64} {i : Nat} {h : ax_Hp} : ax_F (m + 1) 5 [ax_L v, ax_I (Int32.ofNat i)] h = some (.inl (some (ax_I (byC v i))), h) := by
  rw [Desk_byteOf_F]
  rfl
def okC (b : Int32) : Bool := !(decide (b < 32)) && !(decide (126 < b))
theorem Desk_isCharacter_e {m : Nat} {b : Int32} {h : ax_Hp} : ax_F (m + 1) 6 [ax_I b] h = some (.inl (some (ax_I (if okC b = true then 1 else 0))), h) := by
  rw [Desk_isCharacter_F]
  unfold Desk_isCharacter_b okC
  by_cases h1 : b < 32
  · rw [if_pos h1, pl_rz0, if_neg (by simp [h1])]
  · rw [if_neg h1]
    by_cases h2 : 126 < b
    · rw [if_pos h2, pl_rz0, if_neg (by simp [h2])]
    · rw [if_neg h2, pl_rz1, if_pos (by simp [h1, h2])]
/-- the bytes from the i-th on that are not 0, k of them looked at -/
def nzC (v : Int64) : Nat → Nat → List Int32
  | 0, _ => []
  | k + 1, i => (if byC v i = 0 then [] else [byC v i]) ++ nzC v k (i + 1)
def okAll (v : Int64) : Nat → Nat → Bool
  | 0, _ => true
  | k + 1, i => (decide (byC v i = 0) || okC (byC v i)) && okAll v k (i + 1)
theorem nzC_le (v : Int64) : ∀ k i, (nzC v k i).length ≤ k
  | 0, _ => Nat.le_refl _
  | k + 1, i => by
    have := nzC_le v k (i + 1)
    unfold nzC
    rw [List.length_append]
    split <;> simp <;> omega
theorem pl_8 {i k : Nat} (h : i + (k + 1) = 8) : ¬ (8 : Int32) ≤ Int32.ofNat i := fun z => absurd ((pl_le (n := 8) (m := i) (by omega) (by omega)).mp z) (by omega)
theorem pl_s1 (i : Nat) : Int32.ofNat i + 1 = Int32.ofNat (i + 1) := (Int32.ofNat_add i 1).symm
theorem Desk_write_l2 {m : Nat} {v : Int64} {fs : List ax_T} (hfs : fs[0]? = some (ax_A (some 2))) : ∀ (k i fuel : Nat) (h : ax_Hp) (xs : List Int32), i + k = 8 → k < fuel → h.2.2 1 = some (.inl (8, fs)) → rowIs h 2 3 160 xs → xs.length + (nzC v k i).length ≤ 160 →
    ∃ h', Desk_write_lp60 (ax_F (m + 1)) fuel (some 1) v (Int32.ofNat i) h = some (.inl (some (ax_I 1)), h') ∧ rowIs h' 2 3 160 (xs ++ nzC v k i) ∧ but2 h h' 2 3
  | 0, i, fuel + 1, h, xs, hik, _, hd, R, hn => by
    have hi : i = 8 := by omega
    subst hi
    refine ⟨h, ?_, by rw [show nzC v 0 8 = [] from rfl, List.append_nil]; exact R, but2_refl _ _ _⟩
    show Desk_write_bd60 _ _ _ _ _ _ = _
    unfold Desk_write_bd60
    rw [if_pos (by decide), pl_rz1]
  | k + 1, i, fuel + 1, h, xs, hik, hf, hd, R, hn => by
    have hstep : Desk_write_lp60 (ax_F (m + 1)) (fuel + 1) (some 1) v (Int32.ofNat i) h = Desk_write_bd60 (ax_F (m + 1)) (Desk_write_lp60 (ax_F (m + 1)) fuel) (some 1) v (Int32.ofNat i) h := rfl
    rw [hstep]
    unfold Desk_write_bd60
    rw [if_neg (pl_8 hik), pl_ci Desk_byteOf_e]
    by_cases hb : byC v i = 0
    · rw [if_pos hb, pl_s1]
      have e : nzC v (k + 1) i = nzC v k (i + 1) := by
        show (if byC v i = 0 then [] else [byC v i]) ++ _ = _
        rw [if_pos hb]; rfl
      rw [e] at hn ⊢
      exact Desk_write_l2 (m := m) (v := v) hfs k (i + 1) fuel h xs (by omega) (by omega) hd R hn
    · have e : nzC v (k + 1) i = byC v i :: nzC v k (i + 1) := by
        show (if byC v i = 0 then [] else [byC v i]) ++ _ = _
        rw [if_neg hb]; rfl
      rw [e] at hn ⊢
      rw [List.length_cons] at hn
      obtain ⟨h1, q1, q2, q3⟩ := Row_add_i (m := m) (v := byC v i) R (by omega)
      have hd1 : h1.2.2 1 = some (.inl (8, fs)) := (q3.2.2 1 (by decide) (by decide)).trans hd
      obtain ⟨h2, p1, p2, p3⟩ := Desk_write_l2 (m := m) (v := v) hfs k (i + 1) fuel h1 (xs ++ [byC v i]) (by omega) (by omega) hd1 q2 (by rw [List.length_append, List.length_singleton]; omega)
      refine ⟨h2, ?_, by rw [List.append_assoc] at p2; exact p2, q3.trans p3⟩
      rw [if_neg hb, pl_gr hd hfs, Option.bind_some, pl_on (rowIs_obj R), pl_ci q1, pl_s1]
      exact p1
  | 0, _, 0, _, _, _, hf, _, _, _ => absurd hf (by omega)
  | _ + 1, _, 0, _, _, _, hf, _, _, _ => absurd hf (by omega)
theorem Desk_write_l1 {m : Nat} {v : Int64} {fs : List ax_T} (hfs : fs[0]? = some (ax_A (some 2))) {h : ax_Hp} {xs : List Int32} (hd : h.2.2 1 = some (.inl (8, fs))) (R : rowIs h 2 3 160 xs) : ∀ (k i c fuel : Nat), i + k = 8 → k < fuel → c ≤ i →
    Desk_write_lp5 (ax_F (m + 1)) fuel (some 1) v (Int32.ofNat c) (Int32.ofNat i) h = if okAll v k i = true then (if c + (nzC v k i).length ≤ 160 - xs.length then Desk_write_lp60 (ax_F (m + 1)) ax_fuel (some 1) v 0 h else ax_rz 0 h) else ax_rz 0 h
  | 0, i, c, fuel + 1, hik, _, hc => by
    have hi : i = 8 := by omega
    subst hi
    show Desk_write_bd5 _ _ _ _ _ _ _ = _
    unfold Desk_write_bd5
    rw [if_pos (by decide), pl_gr hd hfs, Option.bind_some, pl_on (rowIs_obj R), pl_ci (Row_room_i R)]
    have e : (Int32.ofNat c ≤ Int32.ofNat (160 - xs.length)) ↔ c + (nzC v 0 8).length ≤ 160 - xs.length := pl_le (by omega) (by omega)
    rw [if_pos (show okAll v 0 8 = true from rfl)]
    by_cases hq : c + (nzC v 0 8).length ≤ 160 - xs.length
    · rw [if_pos hq, if_pos (e.mpr hq)]
    · rw [if_neg hq, if_neg (fun z => hq (e.mp z))]
  | k + 1, i, c, fuel + 1, hik, hf, hc => by
    have hstep : Desk_write_lp5 (ax_F (m + 1)) (fuel + 1) (some 1) v (Int32.ofNat c) (Int32.ofNat i) h = Desk_write_bd5 (ax_F (m + 1)) (Desk_write_lp5 (ax_F (m + 1)) fuel) (some 1) v (Int32.ofNat c) (Int32.ofNat i) h := rfl
    rw [hstep]
    unfold Desk_write_bd5
    rw [if_neg (pl_8 hik), pl_ci Desk_byteOf_e]
    by_cases hb : byC v i = 0
    · have e : nzC v (k + 1) i = nzC v k (i + 1) := by
        show (if byC v i = 0 then [] else [byC v i]) ++ _ = _
        rw [if_pos hb]; rfl
      have e2 : okAll v (k + 1) i = okAll v k (i + 1) := by
        show ((decide (byC v i = 0) || okC (byC v i)) && okAll v k (i + 1)) = _
        simp [hb]
      rw [if_pos hb, pl_s1, e, e2]
      exact Desk_write_l1 hfs hd R k (i + 1) c fuel (by omega) (by omega) (by omega)
    · have e : nzC v (k + 1) i = byC v i :: nzC v k (i + 1) := by
        show (if byC v i = 0 then [] else [byC v i]) ++ _ = _
        rw [if_neg hb]; rfl
      rw [if_neg hb, pl_ci Desk_isCharacter_e]
      by_cases ho : okC (byC v i) = true
      · have e2 : okAll v (k + 1) i = okAll v k (i + 1) := by
          show ((decide (byC v i = 0) || okC (byC v i)) && okAll v k (i + 1)) = _
          simp [ho]
        rw [if_pos ho, if_neg (by decide), pl_s1, pl_s1, e, e2, List.length_cons]
        have := Desk_write_l1 (m := m) (v := v) hfs hd R k (i + 1) (c + 1) fuel (by omega) (by omega) (by omega)
        rw [show c + ((nzC v k (i + 1)).length + 1) = c + 1 + (nzC v k (i + 1)).length by omega]
        exact this
      · have e2 : okAll v (k + 1) i = false := by
          show ((decide (byC v i = 0) || okC (byC v i)) && okAll v k (i + 1)) = _
          simp [ho, hb]
        rw [if_neg ho, if_pos rfl, e2, if_neg (by decide)]
  | 0, _, _, 0, _, hf, _ => absurd hf (by omega)
  | _ + 1, _, _, 0, _, hf, _ => absurd hf (by omega)
/-- does write take the characters? -/
def wrOk (v : Int64) (xs : List Int32) : Bool := okAll v 8 0 && decide ((nzC v 8 0).length ≤ 160 - xs.length)
theorem Desk_write_e {m : Nat} {v : Int64} {fs : List ax_T} {h : ax_Hp} {xs : List Int32} (hd : h.2.2 1 = some (.inl (8, fs))) (hfs : fs[0]? = some (ax_A (some 2))) (R : rowIs h 2 3 160 xs) :
    ∃ h', ax_F (m + 2) 4 [ax_A (some 1), ax_L v] h = some (.inl (some (ax_I (if wrOk v xs = true then 1 else 0))), h') ∧ rowIs h' 2 3 160 (if wrOk v xs = true then xs ++ nzC v 8 0 else xs) ∧ but2 h h' 2 3 := by
  have hl := rowIs_le R
  rw [Desk_write_F]
  unfold Desk_write_b
  have e0 := Desk_write_l1 (m := m) (v := v) hfs hd R 8 0 0 1000000000000 (by omega) (by omega) (by omega)
  have e1 : Desk_write_lp5 (ax_F (m + 1)) ax_fuel (some 1) v 0 0 h = _ := e0
  rw [e1]
  by_cases h1 : okAll v 8 0 = true
  · rw [if_pos h1]
    by_cases h2 : 0 + (nzC v 8 0).length ≤ 160 - xs.length
    · rw [if_pos h2]
      have hw : wrOk v xs = true := by
        unfold wrOk
        rw [h1, Bool.true_and, decide_eq_true_eq]
        omega
      rw [if_pos hw, if_pos hw]
      exact Desk_write_l2 hfs 8 0 1000000000000 h xs (by omega) (by omega) hd R (by omega)
    · have hw : ¬ wrOk v xs = true := by
        unfold wrOk
        rw [h1, Bool.true_and, decide_eq_true_eq]
        omega
      rw [if_neg h2, if_neg hw, if_neg hw, pl_rz0]
      exact ⟨h, rfl, R, but2_refl _ _ _⟩
  · have hw : ¬ wrOk v xs = true := by
      unfold wrOk
      simp [h1]
    rw [if_neg h1, if_neg hw, if_neg hw, pl_rz0]
    exact ⟨h, rfl, R, but2_refl _ _ _⟩
theorem Desk_wipe_e {m : Nat} {fs : List ax_T} {h : ax_Hp} {xs : List Int32} (hd : h.2.2 1 = some (.inl (8, fs))) (hfs : fs[0]? = some (ax_A (some 2))) (R : rowIs h 2 3 160 xs) :
    ∃ h', ax_F (m + 2) 9 [ax_A (some 1)] h = some (.inl (some (ax_I (Int32.ofNat xs.length))), h') ∧ rowIs h' 2 3 160 [] ∧ but2 h h' 2 3 := by
  obtain ⟨h1, q1, q2, q3⟩ := Row_clear_i (m := m) R
  refine ⟨h1, ?_, q2, q3⟩
  rw [Desk_wipe_F]
  unfold Desk_wipe_b
  rw [pl_gr hd hfs, Option.bind_some, pl_on (rowIs_obj R), pl_ci q1]
  rfl
theorem Desk_drain_e {m : Nat} {fs : List ax_T} {h : ax_Hp} {xs : List Int32} (hd : h.2.2 1 = some (.inl (8, fs))) (hfs : fs[2]? = some (ax_A (some 8))) (R : rowIs h 8 9 64 xs) :
    ∃ h', ax_F (m + 2) 12 [ax_A (some 1)] h = some (.inl (some (ax_I (Int32.ofNat xs.length))), h') ∧ rowIs h' 8 9 64 [] ∧ but2 h h' 8 9 := by
  obtain ⟨h1, q1, q2, q3⟩ := Row_clear_i (m := m) R
  refine ⟨h1, ?_, q2, q3⟩
  rw [Desk_drain_F]
  unfold Desk_drain_b
  rw [pl_gr hd hfs, Option.bind_some, pl_on (rowIs_obj R), pl_ci q1]
  rfl
theorem Desk_place_e {m : Nat} {fs : List ax_T} {h : ax_Hp} {p : Int32} (hd : h.2.2 1 = some (.inl (8, fs))) (hfs : fs[7]? = some (ax_I p)) : ax_F (m + 1) 13 [ax_A (some 1)] h = some (.inl (some (ax_I p)), h) := by
  rw [Desk_place_F]
  unfold Desk_place_b
  rw [pl_gi hd hfs]
  rfl
