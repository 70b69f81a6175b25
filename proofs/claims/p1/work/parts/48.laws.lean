theorem pl_obj {h : ax_Hp} {a ci : Nat} {fs : List ax_T} (e : h.2.2 a = some (.inl (ci, fs))) : ax_obj h (some a) ci = some fs := by
  unfold ax_obj ax_at?
  rw [Option.bind_some, e]
  exact if_pos rfl
theorem pl_arr {h : ax_Hp} {a kd : Nat} {es : List ax_T} (e : h.2.2 a = some (.inr (kd, es))) : ax_arr h (some a) kd = some es := by
  unfold ax_arr ax_at?
  rw [Option.bind_some, e]
  exact if_pos rfl
theorem pl_gf {h : ax_Hp} {a ci k : Nat} {fs : List ax_T} {v : ax_T} (e : h.2.2 a = some (.inl (ci, fs))) (hk : fs[k]? = some v) : ax_gf h (some a) ci k = some v := by
  unfold ax_gf
  rw [pl_obj e]
  exact hk
theorem pl_gi {h : ax_Hp} {a ci k : Nat} {fs : List ax_T} {v : Int32} (e : h.2.2 a = some (.inl (ci, fs))) (hk : fs[k]? = some (ax_I v)) : ax_gi h (some a) ci k = some v := by
  unfold ax_gi
  rw [pl_gf e hk]
  rfl
theorem pl_gl {h : ax_Hp} {a ci k : Nat} {fs : List ax_T} {v : Int64} (e : h.2.2 a = some (.inl (ci, fs))) (hk : fs[k]? = some (ax_L v)) : ax_gl h (some a) ci k = some v := by
  unfold ax_gl
  rw [pl_gf e hk]
  rfl
theorem pl_gr {h : ax_Hp} {a ci k : Nat} {fs : List ax_T} {v : Option Nat} (e : h.2.2 a = some (.inl (ci, fs))) (hk : fs[k]? = some (ax_A v)) : ax_gr h (some a) ci k = some v := by
  unfold ax_gr
  rw [pl_gf e hk]
  rfl
theorem pl_pf {h : ax_Hp} {a ci k : Nat} {fs : List ax_T} {v : ax_T} (e : h.2.2 a = some (.inl (ci, fs))) (hk : k < fs.length) : ax_pf h (some a) ci k v = some (ax_set h a (.inl (ci, fs.set k v))) := by
  unfold ax_pf
  rw [pl_obj e, Option.bind_some, if_pos hk]
  rfl
theorem pl_len {h : ax_Hp} {a kd : Nat} {es : List ax_T} (e : h.2.2 a = some (.inr (kd, es))) : ax_len h (some a) kd = some (Int32.ofNat es.length) := by
  unfold ax_len
  rw [pl_arr e]
  rfl
theorem pl_pos {n : Nat} (hn : n < 2147483648) : ¬ Int32.ofNat n < 0 := by
  intro h
  have := Int32.lt_iff_toInt_lt.mp h
  rw [Int32.toInt_ofNat_of_lt hn] at this
  have z : (0 : Int32).toInt = 0 := by decide
  omega
theorem pl_nat {n : Nat} (hn : n < 2147483648) : (Int32.ofNat n).toNatClampNeg = n := Int32.toNatClampNeg_ofNat_of_lt hn
theorem pl_lt {n m : Nat} (hn : n < 2147483648) (hm : m < 2147483648) : Int32.ofNat n < Int32.ofNat m ↔ n < m := Int32.ofNat_lt_iff_lt hn hm
theorem pl_le {n m : Nat} (hn : n < 2147483648) (hm : m < 2147483648) : Int32.ofNat n ≤ Int32.ofNat m ↔ n ≤ m := Int32.ofNat_le_iff_le hn hm
theorem pl_ld {h : ax_Hp} {a kd n : Nat} {es : List ax_T} {v : ax_T} (e : h.2.2 a = some (.inr (kd, es))) (hn : n < 2147483648) (hk : es[n]? = some v) : ax_ld h (some a) kd (Int32.ofNat n) = some v := by
  unfold ax_ld
  rw [pl_arr e, Option.bind_some, if_neg (pl_pos hn), pl_nat hn]
  exact hk
theorem pl_ldi {h : ax_Hp} {a kd n : Nat} {es : List ax_T} {v : Int32} (e : h.2.2 a = some (.inr (kd, es))) (hn : n < 2147483648) (hk : es[n]? = some (ax_I v)) : ax_ldi h (some a) kd (Int32.ofNat n) = some v := by
  unfold ax_ldi
  rw [pl_ld e hn hk]
  rfl
theorem pl_ldr {h : ax_Hp} {a kd n : Nat} {es : List ax_T} {v : Option Nat} (e : h.2.2 a = some (.inr (kd, es))) (hn : n < 2147483648) (hk : es[n]? = some (ax_A v)) : ax_ldr h (some a) kd (Int32.ofNat n) = some v := by
  unfold ax_ldr
  rw [pl_ld e hn hk]
  rfl
theorem pl_st {h : ax_Hp} {a kd n : Nat} {es : List ax_T} {v : ax_T} (e : h.2.2 a = some (.inr (kd, es))) (hb : n < 2147483648) (hn : n < es.length) : ax_st h (some a) kd (Int32.ofNat n) v = some (ax_set h a (.inr (kd, es.set n v))) := by
  unfold ax_st
  rw [pl_arr e, Option.bind_some, pl_nat hb, if_neg (fun z => z.elim (pl_pos hb) (fun z => absurd hn (Nat.not_lt.mpr z)))]
  rfl
theorem pl_on {h : ax_Hp} {a ci : Nat} {fs : List ax_T} {k : ax_O} (e : h.2.2 a = some (.inl (ci, fs))) : ax_on h (some a) ci k = k := by
  unfold ax_on
  rw [pl_obj e]
  rfl
theorem pl_set {h : ax_Hp} {a : Nat} {o : ax_Ob} : (ax_set h a o).2.2 a = some o := if_pos rfl
theorem pl_ne {h : ax_Hp} {a b : Nat} {o : ax_Ob} (hb : b ≠ a) : (ax_set h a o).2.2 b = h.2.2 b := if_neg hb
theorem pl_ci {f : ax_O} {v : Int32} {h : ax_Hp} {k : Int32 → ax_Hp → ax_O} (e : f = some (.inl (some (ax_I v)), h)) : ax_ci f k = k v h := by
  subst e; rfl
theorem pl_cl {f : ax_O} {v : Int64} {h : ax_Hp} {k : Int64 → ax_Hp → ax_O} (e : f = some (.inl (some (ax_L v)), h)) : ax_cl f k = k v h := by
  subst e; rfl
theorem pl_cr {f : ax_O} {v : Option Nat} {h : ax_Hp} {k : Option Nat → ax_Hp → ax_O} (e : f = some (.inl (some (ax_A v)), h)) : ax_cr f k = k v h := by
  subst e; rfl
theorem pl_cv {f : ax_O} {h : ax_Hp} {k : ax_Hp → ax_O} (e : f = some (.inl none, h)) : ax_cv f k = k h := by
  subst e; rfl
theorem pl_rz0 {h : ax_Hp} : ax_rz 0 h = some (.inl (some (ax_I 0)), h) := if_pos (Or.inl rfl)
theorem pl_rz1 {h : ax_Hp} : ax_rz 1 h = some (.inl (some (ax_I 1)), h) := if_pos (Or.inr rfl)
/-- a row at a, its items at b -/
def isRow (h : ax_Hp) (a b : Nat) (its : List ax_T) (n : Nat) : Prop := h.2.2 a = some (.inl (2, [ax_A (some b), ax_I (Int32.ofNat n)])) ∧ h.2.2 b = some (.inr (1, its)) ∧ n ≤ its.length ∧ its.length ≤ 1000000 ∧ a ≠ b
theorem Row_room_e {m : Nat} {h : ax_Hp} {a b n : Nat} {its : List ax_T} (R : isRow h a b its n) : ax_F (m + 1) 7 [ax_A (some a)] h = some (.inl (some (ax_I (Int32.ofNat (its.length - n)))), h) := by
  obtain ⟨r1, r2, r3, r4, r5⟩ := R
  rw [Row_room_F]
  unfold Row_room_b
  rw [pl_gr r1 rfl, Option.bind_some, pl_len r2, Option.bind_some, pl_gi r1 rfl, Option.bind_some, Int32.ofNat_sub _ _ r3]
  rfl
theorem Row_size_e {m : Nat} {h : ax_Hp} {a b n : Nat} {its : List ax_T} (R : isRow h a b its n) : ax_F (m + 1) 51 [ax_A (some a)] h = some (.inl (some (ax_I (Int32.ofNat n))), h) := by
  obtain ⟨r1, r2, r3, r4, r5⟩ := R
  rw [Row_size_F]
  unfold Row_size_b
  rw [pl_gi r1 rfl]
  rfl
/-- the picture behind row.add -/
def rowAdd (h : ax_Hp) (a b : Nat) (its : List ax_T) (n : Nat) (v : Int32) : ax_Hp := ax_set (ax_set h b (.inr (1, its.set n (ax_I v)))) a (.inl (2, [ax_A (some b), ax_I (Int32.ofNat (n + 1))]))
theorem Row_add_e {m : Nat} {h : ax_Hp} {a b n : Nat} {its : List ax_T} {v : Int32} (R : isRow h a b its n) (hn : n < its.length) : ax_F (m + 1) 8 [ax_A (some a), ax_I v] h = some (.inl (some (ax_I 1)), rowAdd h a b its n v) := by
  obtain ⟨r1, r2, r3, r4, r5⟩ := R
  have hb : n < 2147483648 := by omega
  rw [Row_add_F]
  unfold Row_add_b
  rw [pl_gi r1 rfl, Option.bind_some, pl_gr r1 rfl, Option.bind_some, pl_len r2, Option.bind_some, if_pos ((pl_lt hb (by omega)).mpr hn)]
  rw [Option.bind_some, Option.bind_some, pl_st r2 hb hn, Option.bind_some, pl_gi ((pl_ne r5).trans r1) rfl, Option.bind_some, pl_pf ((pl_ne r5).trans r1) (Nat.le_of_ble_eq_true rfl), Option.bind_some, pl_rz1]
  unfold rowAdd
  rw [Int32.ofNat_add]
  rfl
theorem isRow_add {h : ax_Hp} {a b n : Nat} {its : List ax_T} {v : Int32} (R : isRow h a b its n) (hn : n < its.length) : isRow (rowAdd h a b its n v) a b (its.set n (ax_I v)) (n + 1) := by
  obtain ⟨r1, r2, r3, r4, r5⟩ := R
  exact ⟨pl_set, (pl_ne (Ne.symm r5)).trans pl_set, by rw [List.length_set]; omega, by rw [List.length_set]; exact r4, r5⟩
theorem rowAdd_ne {h : ax_Hp} {a b n c : Nat} {its : List ax_T} {v : Int32} (h1 : c ≠ a) (h2 : c ≠ b) : (rowAdd h a b its n v).2.2 c = h.2.2 c := (pl_ne h1).trans (pl_ne h2)
theorem Row_clear_e {m : Nat} {h : ax_Hp} {a b n : Nat} {its : List ax_T} (R : isRow h a b its n) : ax_F (m + 1) 10 [ax_A (some a)] h = some (.inl (some (ax_I (Int32.ofNat n))), ax_set h a (.inl (2, [ax_A (some b), ax_I 0]))) := by
  obtain ⟨r1, r2, r3, r4, r5⟩ := R
  rw [Row_clear_F]
  unfold Row_clear_b
  rw [pl_gi r1 rfl, Option.bind_some, pl_pf r1 (Nat.le_of_ble_eq_true rfl), Option.bind_some]
  rfl
theorem isRow_clear {h : ax_Hp} {a b n : Nat} {its : List ax_T} (R : isRow h a b its n) : isRow (ax_set h a (.inl (2, [ax_A (some b), ax_I 0]))) a b its 0 := by
  obtain ⟨r1, r2, r3, r4, r5⟩ := R
  exact ⟨pl_set, (pl_ne (Ne.symm r5)).trans r2, Nat.zero_le _, r4, r5⟩
theorem Row_at_e {m : Nat} {h : ax_Hp} {a b n i : Nat} {its : List ax_T} {v : Int32} (R : isRow h a b its n) (hi : i < n) (hv : its[i]? = some (ax_I v)) : ax_F (m + 1) 45 [ax_A (some a), ax_I (Int32.ofNat i)] h = some (.inl (some (ax_I v)), h) := by
  obtain ⟨r1, r2, r3, r4, r5⟩ := R
  have hb : i < 2147483648 := by omega
  rw [Row_at_F]
  unfold Row_at_b
  rw [if_neg (pl_pos hb), pl_gi r1 rfl, Option.bind_some, if_neg (fun z => absurd ((pl_le (by omega) hb).mp z) (by omega)), pl_gr r1 rfl, Option.bind_some, pl_ldi r2 hb hv]
  rfl
