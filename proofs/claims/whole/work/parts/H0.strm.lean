/-- a stream of N bytes: -1 stands behind them -/
def bSt (b : Int → Int) (N : Nat) : Prop := (∀ i : Int, 0 ≤ i → i < N → 0 ≤ b i ∧ b i ≤ 255) ∧ ∀ i : Int, (N : Int) ≤ i → b i = -1
theorem bSt_b {b : Int → Int} {N : Nat} (h : bSt b N) {i : Int} (i0 : 0 ≤ i) : -1 ≤ b i ∧ b i ≤ 255 ∧ (0 ≤ b i → i < N) ∧ (i < N → 0 ≤ b i) := by
  by_cases q : i < N
  · have := h.1 i i0 q; exact ⟨by omega, by omega, fun _ => q, fun _ => by omega⟩
  · have := h.2 i (by omega); exact ⟨by omega, by omega, fun z => by omega, fun z => absurd z q⟩
/-- twice a number below m stands at q -/
abbrev hfO (b : Int → Int) (m q : Int) : Prop := 0 ≤ b q ∧ b q % 2 = 0 ∧ b q / 2 < m
def spHf (b : Int → Int) (m q : Int) : Int := if hfO b m q then q + 1 else -1 - q
/-- where a number ends: r bytes more may come, fst: is it the first one? -/
def nrE (b : Int → Int) (mx : Int) : Nat → Bool → Int → Int
  | 0, fst, q => if b q < 0 ∨ mx < b q ∨ (fst = false ∧ b q = 0) then -1 - q else q + 1
  | r + 1, fst, q => if b q < 0 ∨ (fst = false ∧ b q = 0) then -1 - q else if b q < 128 then q + 1 else nrE b mx r false (q + 1)
def nrS (b : Int → Int) (k : Nat) (q : Int) (z : Int64) : Int64 := z ||| ((Int32.ofInt (b q) &&& 127).toInt64 <<< ((Int32.ofInt (7 * (k : Int))).toInt64 &&& 63))
/-- the bits of a number -/
def nrW (b : Int → Int) : Nat → Nat → Int → Int64 → Int64
  | 0, k, q, z => nrS b k q z
  | r + 1, k, q, z => if b q < 128 then nrS b k q z else nrW b r (k + 1) (q + 1) (nrS b k q z)
def nrV (z : Int64) : Int64 := if z &&& 1 = 0 then shr1 z else - shr1 z - 1
def nrI (lg : Bool) : Nat := if lg then 9 else 4
def nrM (lg : Bool) : Int := if lg then 1 else 15
def spNr (b : Int → Int) (lg : Bool) (q : Int) : Int := nrE b (nrM lg) (nrI lg) true q
def spNv (b : Int → Int) (lg : Bool) (q : Int) : Int64 := nrV (nrW b (nrI lg) 0 q 0)
/-- k characters of a string -/
def stE (b : Int → Int) : Nat → Int → Int
  | 0, q => q
  | k + 1, q => if 32 ≤ b q ∧ b q ≤ 126 ∧ b q ≠ 34 then stE b k (q + 1) else -1 - q
def spSt (b : Int → Int) (q : Int) : Int := if hfO b 13 q then stE b (b q / 2).toNat (q + 1) else -1 - q
def spSl (c b : Int → Int) (t q : Int) : Int :=
  if c t = 78 then q
  else if c t = 66 then (if b q = 0 ∨ b q = 1 then q + 1 else -1 - q)
  else if c t = 69 then spHf b (spSy c (t + 2) 8 0) q
  else if c t = 83 then spSt b q
  else spNr b (decide (c t = 76)) q
/-- k elements -/
def seE (f : Int → Int) : Nat → Int → Int
  | 0, q => q
  | k + 1, q => if f q < 0 then f q else seE f k (f q)
/-- the parts of an array -/
def spSa (b f : Int → Int) : Nat → Nat → Int → Int
  | 0, _, q => -1 - q
  | p + 1, left, q => if hfO b (left + 1) q then (if b q = 0 then q + 1 else if seE f (b q / 2).toNat (q + 1) < 0 then seE f (b q / 2).toNat (q + 1) else spSa b f p (left - (b q / 2).toNat) (seE f (b q / 2).toNat (q + 1))) else -1 - q
def spSf (f : Int → Int → Int) : List Int → Int → Int
  | [], q => q
  | x :: l, q => if f (x + 2) q < 0 then f (x + 2) q else spSf f l (f (x + 2) q)
def spS1 (c b : Int → Int) (pt : Int → List Int) (f : Int → Int → Int) (t q : Int) : Int :=
  if c t = 65 then spSa b (f (t + 1)) 21 20 q
  else if c t = 85 then (if hfO b (pt t).length q then f ((pt t).getD (b q / 2).toNat 0) (q + 1) else -1 - q)
  else if c t = 82 then spSf f (pt t) q
  else spSl c b t q
/-- where the value of the type at t ends in the stream, or -1 - p: the fault is at p -/
def spSc (c b : Int → Int) : Nat → Int → Int → Int
  | 0 => spSl c b
  | D + 1 => spS1 c b (spPt c (D + 1)) (spSc c b D)
theorem spSc_s (c b : Int → Int) (D : Nat) : spSc c b (D + 1) = spS1 c b (spPt c (D + 1)) (spSc c b D) := rfl
/-- the cursor over the stream and the reader's number -/
def curO (N : Nat) (q : Int) : ax_Ob := .inl (0, [ax_A (some 9), ax_I (Int32.ofInt N), ax_I (Int32.ofInt q)])
def srO (cu sc : Nat) (x : Int64) : ax_Ob := .inl (5, [ax_A (some cu), ax_A (some sc), ax_L x])
def sH (g : ax_Hp) (cu sr sc N : Nat) (q : Int) (x : Int64) : ax_Hp := ax_set (ax_set g cu (curO N q)) sr (srO cu sc x)
def stX (g : ax_Hp) (cu sr sc N : Nat) (b : Int → Int) : Prop := cu ≠ sr ∧ sc + 5 < cu ∧ sc + 5 < sr ∧ 60 ≤ sc ∧ N ≤ 64 ∧ bSt b N ∧ ∃ fb : Nat → Int, g.2.2 9 = some (.inr (1, arL 64 fb)) ∧ ∀ p : Int, 0 ≤ p → p < N → fb p.toNat = b p
theorem verX_k2 {h h' : ax_Hp} {sc l : Nat} {c : Int → Int} {fe fn fu : Nat → Int} (V : verX h sc l c fe fn fu) (hl : sc + 5 ≤ h'.1) (e : ∀ a, sc ≤ a → a ≤ sc + 5 → h'.2.2 a = h.2.2 a) : verX h' sc l c fe fn fu := by
  obtain ⟨v1, v2, v3, v4, v5, v6, v7, v8, v9⟩ := V
  refine ⟨?_, ?_, ?_, ?_, ?_, ?_, v7, hl, v9⟩
  · rw [e _ (by omega) (by omega), v1]
  · rw [e _ (by omega) (by omega), v2]
  · rw [e _ (by omega) (by omega), v3]
  · rw [e _ (by omega) (by omega), v4]
  · rw [e _ (by omega) (by omega), v5]
  · rw [e _ (by omega) (by omega), v6]
section SHL
variable {g : ax_Hp} {cu sr sc N : Nat} {q q' : Int} {x x' : Int64} {b : Int → Int}
theorem sH_sr : (sH g cu sr sc N q x).2.2 sr = some (srO cu sc x) := pl_set
theorem sH_cu (hne : cu ≠ sr) : (sH g cu sr sc N q x).2.2 cu = some (curO N q) := (pl_ne hne).trans pl_set
theorem sH_o {a : Nat} (h1 : a ≠ cu) (h2 : a ≠ sr) : (sH g cu sr sc N q x).2.2 a = g.2.2 a := (pl_ne h2).trans (pl_ne h1)
theorem sH_V {l : Nat} {c : Int → Int} {fe fn fu : Nat → Int} (X : stX g cu sr sc N b) (V : verX g sc l c fe fn fu) : verX (sH g cu sr sc N q x) sc l c fe fn fu := by
  obtain ⟨x1, x2, x3, x4, -⟩ := X
  exact verX_k2 V V.2.2.2.2.2.2.2.1 (fun a a1 a2 => sH_o (by omega) (by omega))
theorem sH_at (hne : cu ≠ sr) : ax_set (sH g cu sr sc N q x) cu (curO N q') = sH g cu sr sc N q' x := by
  unfold sH
  refine Prod.ext rfl (Prod.ext rfl ?_)
  funext a
  by_cases c1 : a = cu
  · rw [c1, pl_set, pl_ne hne, pl_set]
  · rw [pl_ne c1]
    by_cases c2 : a = sr
    · rw [c2, pl_set, pl_set]
    · rw [pl_ne c2, pl_ne c2, pl_ne c1, pl_ne c1]
theorem sH_nu : ax_set (sH g cu sr sc N q x) sr (srO cu sc x') = sH g cu sr sc N q x' := by
  unfold sH
  rw [ax_set_set]
theorem sH_cuon (hne : cu ≠ sr) (k : ax_O) : ax_on (sH g cu sr sc N q x) (some cu) 0 k = k := pl_on (sH_cu hne)
theorem sH_sron (k : ax_O) : ax_on (sH g cu sr sc N q x) (some sr) 5 k = k := pl_on sH_sr
theorem sH_gr0 : ax_gr (sH g cu sr sc N q x) (some sr) 5 0 = some (some cu) := pl_gr sH_sr rfl
theorem sH_gr1 : ax_gr (sH g cu sr sc N q x) (some sr) 5 1 = some (some sc) := pl_gr sH_sr rfl
theorem sH_gl2 : ax_gl (sH g cu sr sc N q x) (some sr) 5 2 = some x := pl_gl sH_sr rfl
theorem sH_pf2 : ax_pf (sH g cu sr sc N q x) (some sr) 5 2 (ax_L x') = some (sH g cu sr sc N q x') := by
  rw [pl_pf sH_sr (Nat.le_of_ble_eq_true rfl)]
  exact congrArg some sH_nu
theorem sH_pfc (hne : cu ≠ sr) : ax_pf (sH g cu sr sc N q x) (some cu) 0 2 (ax_I (Int32.ofInt q')) = some (sH g cu sr sc N q' x) := by
  rw [pl_pf (sH_cu hne) (Nat.le_of_ble_eq_true rfl)]
  exact congrArg some (sH_at hne)
theorem St_at {m : Nat} (hne : cu ≠ sr) : ax_F (m + 1) 27 [ax_A (some cu)] (sH g cu sr sc N q x) = some (.inl (some (ax_I (Int32.ofInt q))), sH g cu sr sc N q x) := Cu_at' (sH_cu hne)
theorem St_peek {m : Nat} (X : stX g cu sr sc N b) (q0 : 0 ≤ q) (q1 : q ≤ 1000) : ax_F (m + 1) 29 [ax_A (some cu)] (sH g cu sr sc N q x) = some (.inl (some (ax_I (Int32.ofInt (b q)))), sH g cu sr sc N q x) := by
  obtain ⟨x1, x2, x3, x4, x5, x6, fb, x7, x8⟩ := X
  have e9 : (sH g cu sr sc N q x).2.2 9 = some (.inr (1, arL 64 fb)) := (sH_o (by omega) (by omega)).trans x7
  have cc := sH_cu (g := g) (sc := sc) (N := N) (q := q) (x := x) x1
  rw [Cursor_peek_F]
  unfold Cursor_peek_b
  rw [pl_gi cc (v := Int32.ofInt q) rfl, Option.bind_some, if_neg (zi_n0 q0 (by omega)), Option.bind_some, pl_gi cc (v := Int32.ofInt N) rfl, Option.bind_some]
  by_cases c1 : q < N
  · rw [if_neg (show ¬ Int32.ofInt N ≤ Int32.ofInt q from by rw [zi_le (by omega) (by omega) (by omega) (by omega)]; omega), pl_gr cc (v := some 9) rfl, Option.bind_some, Option.bind_some, za_ld e9 q0 (by omega) (by omega), Option.bind_some, x8 q q0 c1]
    rfl
  · rw [if_pos (show Int32.ofInt N ≤ Int32.ofInt q from by rw [zi_le (by omega) (by omega) (by omega) (by omega)]; omega), x6.2 q (by omega)]
    rfl
theorem St_take {m : Nat} {y : Int} (X : stX g cu sr sc N b) (q0 : 0 ≤ q) (q1 : q ≤ 1000) (y0 : 0 ≤ y) (y1 : y ≤ 255) : ax_F (m + 1) 30 [ax_A (some cu), ax_I (Int32.ofInt y)] (sH g cu sr sc N q x) = some (.inl (some (ax_I (Int32.ofInt (if b q = y then 1 else 0)))), sH g cu sr sc N (if b q = y then q + 1 else q) x) := by
  have X' := X
  obtain ⟨x1, x2, x3, x4, x5, x6, fb, x7, x8⟩ := X
  have e9 : (sH g cu sr sc N q x).2.2 9 = some (.inr (1, arL 64 fb)) := (sH_o (by omega) (by omega)).trans x7
  have cc := sH_cu (g := g) (sc := sc) (N := N) (q := q) (x := x) x1
  have bb := bSt_b x6 q0
  rw [Cursor_take_F]
  unfold Cursor_take_b
  rw [pl_gi cc (v := Int32.ofInt q) rfl, Option.bind_some, if_neg (zi_n0 q0 (by omega)), Option.bind_some, pl_gi cc (v := Int32.ofInt N) rfl, Option.bind_some]
  by_cases c1 : q < N
  · rw [if_neg (show ¬ Int32.ofInt N ≤ Int32.ofInt q from by rw [zi_le (by omega) (by omega) (by omega) (by omega)]; omega), pl_gr cc (v := some 9) rfl, Option.bind_some, Option.bind_some, za_ld e9 q0 (by omega) (by omega), Option.bind_some, x8 q q0 c1]
    by_cases c2 : b q = y
    · rw [if_pos (by rw [c2]), Option.bind_some, show (1 : Int32) = Int32.ofInt 1 from rfl, zi_add, sH_pfc x1, Option.bind_some, if_pos c2, if_pos c2]
      exact za_rz (v := 1) (Or.inr rfl)
    · rw [if_neg (show ¬ Int32.ofInt (b q) = Int32.ofInt y from by rw [zi_eq (by omega) (by omega) (by omega) (by omega)]; exact c2), if_neg c2, if_neg c2]
      exact za_rz (v := 0) (Or.inl rfl)
  · have := x6.2 q (by omega)
    rw [if_pos (show Int32.ofInt N ≤ Int32.ofInt q from by rw [zi_le (by omega) (by omega) (by omega) (by omega)]; omega), if_neg (show ¬ b q = y by omega), if_neg (show ¬ b q = y by omega)]
    exact za_rz (v := 0) (Or.inl rfl)
theorem St_step {m : Nat} (X : stX g cu sr sc N b) (q0 : 0 ≤ q) (h : 0 ≤ b q) : ax_F (m + 1) 34 [ax_A (some cu)] (sH g cu sr sc N q x) = some (.inl none, sH g cu sr sc N (q + 1) x) := by
  obtain ⟨x1, x2, x3, x4, x5, x6, -⟩ := X
  have cc := sH_cu (g := g) (sc := sc) (N := N) (q := q) (x := x) x1
  have lt := (bSt_b x6 q0).2.2.1 h
  rw [Cursor_step_F]
  unfold Cursor_step_b
  rw [pl_gi cc (v := Int32.ofInt q) rfl, Option.bind_some, pl_gi cc (v := Int32.ofInt N) rfl, Option.bind_some, if_neg (show ¬ Int32.ofInt N ≤ Int32.ofInt q from by rw [zi_le (by omega) (by omega) (by omega) (by omega)]; omega), Option.bind_some, show (1 : Int32) = Int32.ofInt 1 from rfl, zi_add, sH_pfc x1]
  rfl
theorem St_end {m : Nat} (X : stX g cu sr sc N b) (q0 : 0 ≤ q) (q1 : q ≤ 1000) : ax_F (m + 1) 52 [ax_A (some cu)] (sH g cu sr sc N q x) = some (.inl (some (ax_I (Int32.ofInt (if q < N then 0 else 1)))), sH g cu sr sc N q x) := by
  obtain ⟨x1, x2, x3, x4, x5, x6, -⟩ := X
  have cc := sH_cu (g := g) (sc := sc) (N := N) (q := q) (x := x) x1
  rw [Cursor_isAtEnd_F]
  unfold Cursor_isAtEnd_b
  rw [pl_gi cc (v := Int32.ofInt q) rfl, Option.bind_some, pl_gi cc (v := Int32.ofInt N) rfl, Option.bind_some]
  by_cases c1 : q < N
  · rw [if_pos (show Int32.ofInt q < Int32.ofInt N from by rw [zi_lt (by omega) (by omega) (by omega) (by omega)]; exact c1), if_pos c1]
    exact za_rz (v := 0) (Or.inl rfl)
  · rw [if_neg (show ¬ Int32.ofInt q < Int32.ofInt N from by rw [zi_lt (by omega) (by omega) (by omega) (by omega)]; exact c1), if_neg c1]
    exact za_rz (v := 1) (Or.inr rfl)
end SHL
theorem by_div : ∀ k : Nat, k < 256 → Int32.ofInt k / 2 = Int32.ofInt ((k / 2 : Nat) : Int) ∧ Int32.ofInt k &&& 127 = Int32.ofInt ((k % 128 : Nat) : Int) := by decide +kernel
theorem byd {a : Int} (h0 : 0 ≤ a) (h1 : a ≤ 255) : Int32.ofInt a / 2 = Int32.ofInt (a / 2) ∧ Int32.ofInt a &&& 127 = Int32.ofInt (a % 128) := by
  have := by_div a.toNat (by omega)
  rw [show ((a.toNat : Nat) : Int) = a by omega, show ((a.toNat / 2 : Nat) : Int) = a / 2 by omega, show ((a.toNat % 128 : Nat) : Int) = a % 128 by omega] at this
  exact this
theorem nz2 (k : ax_O) : ax_nz 2 k = k := by unfold ax_nz; rw [if_neg (by decide)]
/-- the class reads twice a number -/
theorem Sr_cnt {m : Nat} {g : ax_Hp} {cu sr sc N : Nat} {q mo : Int} {x : Int64} {b : Int → Int} (X : stX g cu sr sc N b) (q0 : 0 ≤ q) (q1 : q ≤ 1000) (m0 : -1 ≤ mo) (m1 : mo ≤ 1000) : ax_F (m + 2) 115 [ax_A (some sr), ax_I (Int32.ofInt mo)] (sH g cu sr sc N q x) = some (.inl (some (ax_I (Int32.ofInt (if hfO b (mo + 1) q then 1 else 0)))), sH g cu sr sc N (if hfO b (mo + 1) q then q + 1 else q) (if hfO b (mo + 1) q then Int64.ofInt (b q / 2) else x)) := by
  have bb := bSt_b X.2.2.2.2.2.1 q0
  have z0 : ∀ y : Int64, ax_rz 0 (sH g cu sr sc N q y) = some (.inl (some (ax_I (Int32.ofInt 0))), sH g cu sr sc N q y) := fun y => za_rz (v := 0) (Or.inl rfl)
  rw [StreamReader_readCount_F]
  unfold StreamReader_readCount_b
  rw [sH_gr0, Option.bind_some, sH_cuon X.1, pl_ci (St_peek X q0 q1)]
  by_cases c1 : b q < 0
  · rw [if_pos (show Int32.ofInt (b q) < 0 from by rw [zi_0, zi_lt (by omega) (by omega) (by omega) (by omega)]; exact c1), if_neg (show ¬ hfO b (mo + 1) q from fun z => by have := z.1; omega), if_neg (show ¬ hfO b (mo + 1) q from fun z => by have := z.1; omega), if_neg (show ¬ hfO b (mo + 1) q from fun z => by have := z.1; omega), z0]
  · obtain ⟨d1, -⟩ := byd (a := b q) (by omega) bb.2.1
    rw [if_neg (show ¬ Int32.ofInt (b q) < 0 from by rw [zi_0, zi_lt (by omega) (by omega) (by omega) (by omega)]; exact c1), nz2, d1, show (2 : Int32) = Int32.ofInt 2 from rfl, zi_mul, zi_sub, show (Int32.ofInt 2 : Int32) = 2 from rfl, nz2]
    by_cases c2 : b q % 2 = 0
    · rw [if_pos (show Int32.ofInt (b q - b q / 2 * 2) = 0 from by rw [zi_0, zi_eq (by omega) (by omega) (by omega) (by omega)]; omega)]
      by_cases c3 : b q / 2 < mo + 1
      · have hh : hfO b (mo + 1) q := ⟨by omega, c2, c3⟩
        rw [if_pos (show Int32.ofInt (b q / 2) ≤ Int32.ofInt mo from by rw [zi_le (by omega) (by omega) (by omega) (by omega)]; omega), sH_gr0, Option.bind_some, sH_cuon X.1, pl_cv (St_step X q0 (by omega)), nz2, zl_of32 (by omega) (by omega), sH_pf2, Option.bind_some, if_pos hh, if_pos hh, if_pos hh]
        exact za_rz (v := 1) (Or.inr rfl)
      · have hh : ¬ hfO b (mo + 1) q := fun z => c3 z.2.2
        rw [if_neg (show ¬ Int32.ofInt (b q / 2) ≤ Int32.ofInt mo from by rw [zi_le (by omega) (by omega) (by omega) (by omega)]; omega), if_neg hh, if_neg hh, if_neg hh, z0]
    · have hh : ¬ hfO b (mo + 1) q := fun z => c2 z.2.1
      rw [if_neg (show ¬ Int32.ofInt (b q - b q / 2 * 2) = 0 from by rw [zi_0, zi_eq (by omega) (by omega) (by omega) (by omega)]; omega), if_neg hh, if_neg hh, if_neg hh, z0]
