/-- an end lies behind q and not behind the stream's end -/
def sbd (N : Nat) (q e : Int) : Prop := (0 ≤ e → q ≤ e ∧ e ≤ N) ∧ (e < 0 → q ≤ -1 - e ∧ -1 - e ≤ N)
theorem nrE_b {b : Int → Int} {N : Nat} {mx : Int} (B : bSt b N) : ∀ (r : Nat) (f : Bool) (q : Int), 0 ≤ q → q ≤ N → sbd N q (nrE b mx r f q)
  | 0, f, q, q0, q1 => by
    have bb := bSt_b B q0
    show sbd N q (if b q < 0 ∨ mx < b q ∨ (f = false ∧ b q = 0) then -1 - q else q + 1)
    by_cases c : b q < 0 ∨ mx < b q ∨ (f = false ∧ b q = 0)
    · rw [if_pos c]; exact ⟨fun _ => by omega, fun _ => by omega⟩
    · rw [if_neg c]
      have := bb.2.2.1 (by omega)
      exact ⟨fun _ => by omega, fun _ => by omega⟩
  | r + 1, f, q, q0, q1 => by
    have bb := bSt_b B q0
    show sbd N q (if b q < 0 ∨ (f = false ∧ b q = 0) then -1 - q else if b q < 128 then q + 1 else nrE b mx r false (q + 1))
    by_cases c : b q < 0 ∨ (f = false ∧ b q = 0)
    · rw [if_pos c]; exact ⟨fun _ => by omega, fun _ => by omega⟩
    · rw [if_neg c]
      have lt := bb.2.2.1 (by omega)
      by_cases c2 : b q < 128
      · rw [if_pos c2]; exact ⟨fun _ => by omega, fun _ => by omega⟩
      · rw [if_neg c2]
        have ih := nrE_b (mx := mx) B r false (q + 1) (by omega) (by omega)
        exact ⟨fun z => by have := ih.1 z; omega, fun z => by have := ih.2 z; omega⟩
theorem stE_b {b : Int → Int} {N : Nat} (B : bSt b N) : ∀ (k : Nat) (q : Int), 0 ≤ q → q ≤ N → sbd N q (stE b k q)
  | 0, q, q0, q1 => ⟨fun _ => ⟨Int.le_refl _, q1⟩, fun z => absurd (show q < 0 from z) (by omega)⟩
  | k + 1, q, q0, q1 => by
    have bb := bSt_b B q0
    show sbd N q (if 32 ≤ b q ∧ b q ≤ 126 ∧ b q ≠ 34 then stE b k (q + 1) else -1 - q)
    by_cases c : 32 ≤ b q ∧ b q ≤ 126 ∧ b q ≠ 34
    · rw [if_pos c]
      have lt := bb.2.2.1 (by omega)
      have ih := stE_b B k (q + 1) (by omega) (by omega)
      exact ⟨fun z => by have := ih.1 z; omega, fun z => by have := ih.2 z; omega⟩
    · rw [if_neg c]; exact ⟨fun _ => by omega, fun _ => by omega⟩
theorem spSl_b {c b : Int → Int} {N : Nat} (B : bSt b N) (t q : Int) (q0 : 0 ≤ q) (q1 : q ≤ N) : sbd N q (spSl c b t q) := by
  have bb := bSt_b B q0
  unfold spSl
  split
  · exact ⟨fun _ => by omega, fun _ => by omega⟩
  · split
    · split
      · have lt := bb.2.2.1 (by omega)
        exact ⟨fun _ => by omega, fun _ => by omega⟩
      · exact ⟨fun _ => by omega, fun _ => by omega⟩
    · split
      · unfold spHf
        split
        · rename_i w
          have lt := bb.2.2.1 w.1
          exact ⟨fun _ => by omega, fun _ => by omega⟩
        · exact ⟨fun _ => by omega, fun _ => by omega⟩
      · split
        · unfold spSt
          split
          · rename_i w
            have lt := bb.2.2.1 w.1
            have ih := stE_b B (b q / 2).toNat (q + 1) (by omega) (by omega)
            exact ⟨fun z => by have := ih.1 z; omega, fun z => by have := ih.2 z; omega⟩
          · exact ⟨fun _ => by omega, fun _ => by omega⟩
        · exact nrE_b B _ _ q q0 q1
theorem seE_b {f : Int → Int} {N : Nat} (hf : ∀ q : Int, 0 ≤ q → q ≤ N → sbd N q (f q)) : ∀ (k : Nat) (q : Int), 0 ≤ q → q ≤ N → sbd N q (seE f k q)
  | 0, q, q0, q1 => ⟨fun _ => ⟨Int.le_refl _, q1⟩, fun z => absurd (show q < 0 from z) (by omega)⟩
  | k + 1, q, q0, q1 => by
    have h := hf q q0 q1
    show sbd N q (if f q < 0 then f q else seE f k (f q))
    by_cases c : f q < 0
    · rw [if_pos c]; exact h
    · rw [if_neg c]
      have h1 := h.1 (by omega)
      have ih := seE_b hf k (f q) (by omega) (by omega)
      exact ⟨fun z => by have := ih.1 z; omega, fun z => by have := ih.2 z; omega⟩
theorem spSa_b {b f : Int → Int} {N : Nat} (B : bSt b N) (hf : ∀ q : Int, 0 ≤ q → q ≤ N → sbd N q (f q)) : ∀ (p left : Nat) (q : Int), 0 ≤ q → q ≤ N → sbd N q (spSa b f p left q)
  | 0, _, q, q0, q1 => ⟨fun z => absurd (show 0 ≤ -1 - q from z) (by omega), fun _ => by show q ≤ -1 - (-1 - q) ∧ -1 - (-1 - q) ≤ (N : Int); omega⟩
  | p + 1, left, q, q0, q1 => by
    have bb := bSt_b B q0
    show sbd N q (if hfO b (left + 1) q then (if b q = 0 then q + 1 else if seE f (b q / 2).toNat (q + 1) < 0 then seE f (b q / 2).toNat (q + 1) else spSa b f p (left - (b q / 2).toNat) (seE f (b q / 2).toNat (q + 1))) else -1 - q)
    by_cases c : hfO b (left + 1) q
    · rw [if_pos c]
      have lt := bb.2.2.1 c.1
      by_cases c2 : b q = 0
      · rw [if_pos c2]; exact ⟨fun _ => by omega, fun _ => by omega⟩
      · rw [if_neg c2]
        have h := seE_b hf (b q / 2).toNat (q + 1) (by omega) (by omega)
        by_cases c3 : seE f (b q / 2).toNat (q + 1) < 0
        · rw [if_pos c3]
          exact ⟨fun z => by omega, fun z => by have := h.2 z; omega⟩
        · rw [if_neg c3]
          have h1 := h.1 (by omega)
          have ih := spSa_b B hf p (left - (b q / 2).toNat) (seE f (b q / 2).toNat (q + 1)) (by omega) (by omega)
          exact ⟨fun z => by have := ih.1 z; omega, fun z => by have := ih.2 z; omega⟩
    · rw [if_neg c]; exact ⟨fun _ => by omega, fun _ => by omega⟩
theorem spSf_b {f : Int → Int → Int} {N : Nat} (hf : ∀ t q : Int, 0 ≤ q → q ≤ N → sbd N q (f t q)) : ∀ (l : List Int) (q : Int), 0 ≤ q → q ≤ N → sbd N q (spSf f l q)
  | [], q, q0, q1 => ⟨fun _ => ⟨Int.le_refl _, q1⟩, fun z => absurd (show q < 0 from z) (by omega)⟩
  | x :: l, q, q0, q1 => by
    have h := hf (x + 2) q q0 q1
    show sbd N q (if f (x + 2) q < 0 then f (x + 2) q else spSf f l (f (x + 2) q))
    by_cases c : f (x + 2) q < 0
    · rw [if_pos c]; exact h
    · rw [if_neg c]
      have h1 := h.1 (by omega)
      have ih := spSf_b hf l (f (x + 2) q) (by omega) (by omega)
      exact ⟨fun z => by have := ih.1 z; omega, fun z => by have := ih.2 z; omega⟩
theorem spSc_b {c b : Int → Int} {N : Nat} (B : bSt b N) : ∀ (D : Nat) (t q : Int), 0 ≤ q → q ≤ N → sbd N q (spSc c b D t q)
  | 0, t, q, q0, q1 => spSl_b B t q q0 q1
  | D + 1, t, q, q0, q1 => by
    have bb := bSt_b B q0
    rw [spSc_s]
    unfold spS1
    split
    · exact spSa_b B (fun q a d => spSc_b B D (t + 1) q a d) 21 20 q q0 q1
    · split
      · split
        · rename_i w
          have lt := bb.2.2.1 w.1
          have ih := spSc_b (c := c) B D ((spPt c (D + 1) t).getD (b q / 2).toNat 0) (q + 1) (by omega) (by omega)
          exact ⟨fun z => by have := ih.1 z; omega, fun z => by have := ih.2 z; omega⟩
        · exact ⟨fun _ => by omega, fun _ => by omega⟩
      · split
        · exact spSf_b (fun t q a d => spSc_b B D t q a d) _ q q0 q1
        · exact spSl_b B t q q0 q1
section SRL
variable {g : ax_Hp} {cu sr sc N : Nat} {b : Int → Int}
theorem Sr_numL {m : Nat} {lg : Bool} {x : Int64} (X : stX g cu sr sc N b) : ∀ (r k fuel : Nat) (q : Int) (z : Int64), r + k = nrI lg → 0 ≤ q → q ≤ N → r < fuel → StreamReader_readNumber_lp5 (ax_F (m + 1)) fuel (some sr) (Int32.ofInt (nrB lg)) z (Int32.ofInt (7 * (k : Int))) (sH g cu sr sc N q x) = some (.inl (some (ax_I (Int32.ofInt (if 0 ≤ nrE b (nrM lg) r (decide (k = 0)) q then 1 else 0)))), sH g cu sr sc N (if 0 ≤ nrE b (nrM lg) r (decide (k = 0)) q then nrE b (nrM lg) r (decide (k = 0)) q else -1 - nrE b (nrM lg) r (decide (k = 0)) q) (if 0 ≤ nrE b (nrM lg) r (decide (k = 0)) q then nrV (nrW b r k q z) else x))
  | 0, k, fuel, q, z, hr, q0, q1, hf => by
    obtain ⟨fuel, rfl⟩ : ∃ g, fuel = g + 1 := ⟨fuel - 1, by omega⟩
    have n64 := X.2.2.2.2.1
    have fm := (nr_f lg).2.2.2.2.2.1
    rw [Sr_num1 (r := 0) X hr q0 (by omega)]
    have e : nrE b (nrM lg) 0 (decide (k = 0)) q = if b q < 0 ∨ nrM lg < b q ∨ (decide (k = 0) = false ∧ b q = 0) then -1 - q else q + 1 := rfl
    rw [e]
    by_cases c1 : b q < 0 ∨ nrM lg < b q ∨ (decide (k = 0) = false ∧ b q = 0)
    · rw [if_pos c1, if_pos (by rcases c1 with w | w | w; exact Or.inl w; exact Or.inr (Or.inr ⟨rfl, w⟩); exact Or.inr (Or.inl w)), if_neg (by omega), if_neg (by omega), if_neg (by omega), show -1 - (-1 - q) = q by omega]
    · rw [if_neg c1, if_neg (fun w => c1 (by rcases w with w | w | w; exact Or.inl w; exact Or.inr (Or.inr w); exact Or.inr (Or.inl w.2))), if_pos (show b q < 128 by omega), if_pos (by omega), if_pos (by omega), if_pos (by omega)]
      rfl
  | r + 1, k, fuel, q, z, hr, q0, q1, hf => by
    obtain ⟨fuel, rfl⟩ : ∃ g, fuel = g + 1 := ⟨fuel - 1, by omega⟩
    have n64 := X.2.2.2.2.1
    have bb := bSt_b X.2.2.2.2.2.1 q0
    rw [Sr_num1 (r := r + 1) X hr q0 (by omega)]
    have e : nrE b (nrM lg) (r + 1) (decide (k = 0)) q = if b q < 0 ∨ (decide (k = 0) = false ∧ b q = 0) then -1 - q else if b q < 128 then q + 1 else nrE b (nrM lg) r false (q + 1) := rfl
    have ew : nrW b (r + 1) k q z = if b q < 128 then nrS b k q z else nrW b r (k + 1) (q + 1) (nrS b k q z) := rfl
    rw [e, ew]
    by_cases c1 : b q < 0 ∨ (decide (k = 0) = false ∧ b q = 0)
    · rw [if_pos c1, if_pos (by rcases c1 with w | w; exact Or.inl w; exact Or.inr (Or.inl w)), if_neg (by omega), if_neg (by omega), if_neg (by omega), show -1 - (-1 - q) = q by omega]
    · rw [if_neg c1, if_neg (fun w => by rcases w with w | w | w; exact c1 (Or.inl w); exact c1 (Or.inr w); omega)]
      by_cases c2 : b q < 128
      · rw [if_pos c2, if_pos c2, if_pos c2, if_pos (by omega), if_pos (by omega), if_pos (by omega)]
      · rw [if_neg c2, if_neg c2, if_neg c2]
        have lt := bb.2.2.1 (by omega)
        have ih := Sr_numL (m := m) (lg := lg) (x := x) X r (k + 1) fuel (q + 1) (nrS b k q z) (by omega) (by omega) (by omega) (by omega)
        rw [show decide (k + 1 = 0) = false from rfl] at ih
        exact ih
/-- the class reads a number -/
theorem Sr_num {m : Nat} {lg : Bool} {q : Int} {x : Int64} (X : stX g cu sr sc N b) (q0 : 0 ≤ q) (q1 : q ≤ N) : ax_F (m + 2) 113 [ax_A (some sr), ax_I (Int32.ofInt (nrB lg))] (sH g cu sr sc N q x) = some (.inl (some (ax_I (Int32.ofInt (if 0 ≤ spNr b lg q then 1 else 0)))), sH g cu sr sc N (if 0 ≤ spNr b lg q then spNr b lg q else -1 - spNr b lg q) (if 0 ≤ spNr b lg q then spNv b lg q else x)) := by
  have f4 := (nr_f lg).2.2.2.1
  rw [StreamReader_readNumber_F]
  unfold StreamReader_readNumber_b
  exact Sr_numL X (nrI lg) 0 ax_fuel q 0 rfl q0 q1 (by unfold ax_fuel; omega)
theorem Sr_bool {m : Nat} {q : Int} {x : Int64} (X : stX g cu sr sc N b) (q0 : 0 ≤ q) (q1 : q ≤ N) : ax_F (m + 2) 112 [ax_A (some sr)] (sH g cu sr sc N q x) = some (.inl (some (ax_I (Int32.ofInt (if b q = 0 ∨ b q = 1 then 1 else 0)))), sH g cu sr sc N (if b q = 0 ∨ b q = 1 then q + 1 else q) (Int64.ofInt (b q))) := by
  have n64 := X.2.2.2.2.1
  have bb := bSt_b X.2.2.2.2.2.1 q0
  have t0 := fun y => St_take (m := m) (y := 0) (x := y) X q0 (by omega) (by omega) (by omega)
  have t1 := fun y => St_take (m := m) (y := 1) (x := y) X q0 (by omega) (by omega) (by omega)
  rw [StreamReader_readBoolean_F]
  unfold StreamReader_readBoolean_b
  rw [sH_gr0, Option.bind_some, sH_cuon X.1, pl_ci (St_peek X q0 (by omega)), zl_of32 (by omega) (by omega), sH_pf2, Option.bind_some, sH_gr0, Option.bind_some, sH_cuon X.1, pl_ci (show ax_F (m + 1) 30 [ax_A (some cu), ax_I 0] _ = _ from t0 _)]
  by_cases c1 : b q = 0
  · rw [if_pos c1, if_pos c1, if_neg (show ¬ Int32.ofInt 1 = 0 from by decide), if_pos (Or.inl c1), if_pos (Or.inl c1)]
    exact za_rz (v := 1) (Or.inr rfl)
  · rw [if_neg c1, if_neg c1, if_pos (show Int32.ofInt 0 = 0 from rfl), sH_gr0, Option.bind_some, sH_cuon X.1, pl_ci (show ax_F (m + 1) 30 [ax_A (some cu), ax_I 1] _ = _ from t1 _)]
    by_cases c2 : b q = 1
    · rw [if_pos c2, if_pos c2, if_neg (show ¬ Int32.ofInt 1 = 0 from by decide), if_pos (Or.inr c2), if_pos (Or.inr c2)]
      exact za_rz (v := 1) (Or.inr rfl)
    · rw [if_neg c2, if_neg c2, if_pos (show Int32.ofInt 0 = 0 from rfl), if_neg (by omega), if_neg (by omega)]
      exact za_rz (v := 0) (Or.inl rfl)
abbrev chO (b : Int → Int) (q : Int) : Prop := 32 ≤ b q ∧ b q ≤ 126 ∧ b q ≠ 34
theorem Sr_chr {m : Nat} {q : Int} {x : Int64} (X : stX g cu sr sc N b) (q0 : 0 ≤ q) (q1 : q ≤ N) : ax_F (m + 2) 116 [ax_A (some sr)] (sH g cu sr sc N q x) = some (.inl (some (ax_I (Int32.ofInt (if chO b q then 1 else 0)))), sH g cu sr sc N (if chO b q then q + 1 else q) (if chO b q then Int64.ofInt (b q) else x)) := by
  have n64 := X.2.2.2.2.1
  have bb := bSt_b X.2.2.2.2.2.1 q0
  have z0 : ax_rz 0 (sH g cu sr sc N q x) = some (.inl (some (ax_I (Int32.ofInt 0))), sH g cu sr sc N q x) := za_rz (v := 0) (Or.inl rfl)
  have ic : ax_F (m + 1) 6 [ax_I (Int32.ofInt (b q))] (sH g cu sr sc N q x) = some (.inl (some (ax_I (Int32.ofInt (if 32 ≤ b q ∧ b q ≤ 126 then 1 else 0)))), sH g cu sr sc N q x) := by
    rw [Desk_isCharacter_F]
    unfold Desk_isCharacter_b
    by_cases c1 : b q < 32
    · rw [if_pos (show Int32.ofInt (b q) < 32 from by rw [show (32 : Int32) = Int32.ofInt 32 from rfl, zi_lt (by omega) (by omega) (by omega) (by omega)]; exact c1), if_neg (by omega), z0]
    · rw [if_neg (show ¬ Int32.ofInt (b q) < 32 from by rw [show (32 : Int32) = Int32.ofInt 32 from rfl, zi_lt (by omega) (by omega) (by omega) (by omega)]; exact c1)]
      by_cases c2 : 126 < b q
      · rw [if_pos (show (126 : Int32) < Int32.ofInt (b q) from by rw [show (126 : Int32) = Int32.ofInt 126 from rfl, zi_lt (by omega) (by omega) (by omega) (by omega)]; exact c2), if_neg (by omega), z0]
      · rw [if_neg (show ¬ (126 : Int32) < Int32.ofInt (b q) from by rw [show (126 : Int32) = Int32.ofInt 126 from rfl, zi_lt (by omega) (by omega) (by omega) (by omega)]; exact c2), if_pos (by omega)]
        exact za_rz (v := 1) (Or.inr rfl)
  rw [StreamReader_readStringCharacter_F]
  unfold StreamReader_readStringCharacter_b
  rw [sH_gr0, Option.bind_some, sH_cuon X.1, pl_ci (St_peek X q0 (by omega)), pl_ci ic]
  by_cases c1 : 32 ≤ b q ∧ b q ≤ 126
  · rw [if_pos c1, if_neg (show ¬ Int32.ofInt 1 = 0 from by decide)]
    by_cases c2 : b q = 34
    · have hh : ¬ chO b q := fun w => w.2.2 c2
      rw [if_pos (show Int32.ofInt (b q) = 34 from by rw [c2]; rfl), if_neg hh, if_neg hh, if_neg hh, z0]
    · have hh : chO b q := ⟨c1.1, c1.2, c2⟩
      rw [if_neg (show ¬ Int32.ofInt (b q) = 34 from by rw [show (34 : Int32) = Int32.ofInt 34 from rfl, zi_eq (by omega) (by omega) (by omega) (by omega)]; exact c2), sH_gr0, Option.bind_some, sH_cuon X.1, pl_cv (St_step X q0 (by omega)), zl_of32 (by omega) (by omega), sH_pf2, Option.bind_some, if_pos hh, if_pos hh, if_pos hh]
      exact za_rz (v := 1) (Or.inr rfl)
  · have hh : ¬ chO b q := fun w => c1 ⟨w.1, w.2.1⟩
    rw [if_neg c1, if_pos (show Int32.ofInt 0 = 0 from rfl), if_neg hh, if_neg hh, if_neg hh, z0]
/-- the answer and the place of a reading that ends at e -/
def stR (g : ax_Hp) (cu sr sc N : Nat) (F : ax_O) (e : Int) : Prop := ∃ x', F = some (.inl (some (ax_I (Int32.ofInt (if 0 ≤ e then 1 else 0)))), sH g cu sr sc N (if 0 ≤ e then e else -1 - e) x')
theorem Sr_strL {m : Nat} (X : stX g cu sr sc N b) : ∀ (k i fuel : Nat) (n : Nat) (q : Int) (x : Int64), i + k = n → n ≤ 12 → 0 ≤ q → q ≤ N → k < fuel → stR g cu sr sc N (StreamReader_skipString_lp19 (ax_F (m + 2)) fuel (some sr) (Int32.ofInt n) (Int32.ofInt i) (sH g cu sr sc N q x)) (stE b k q)
  | 0, i, fuel, n, q, x, hi, hn, q0, q1, hf => by
    obtain ⟨fuel, rfl⟩ : ∃ g, fuel = g + 1 := ⟨fuel - 1, by omega⟩
    have hstep : StreamReader_skipString_lp19 (ax_F (m + 2)) (fuel + 1) = StreamReader_skipString_bd19 (ax_F (m + 2)) (StreamReader_skipString_lp19 (ax_F (m + 2)) fuel) := rfl
    refine ⟨x, ?_⟩
    rw [hstep, show stE b 0 q = q from rfl, if_pos q0, if_pos q0]
    unfold StreamReader_skipString_bd19
    rw [if_pos (show Int32.ofInt n ≤ Int32.ofInt i from by rw [zi_le (by omega) (by omega) (by omega) (by omega)]; omega)]
    exact za_rz (v := 1) (Or.inr rfl)
  | k + 1, i, fuel, n, q, x, hi, hn, q0, q1, hf => by
    obtain ⟨fuel, rfl⟩ : ∃ g, fuel = g + 1 := ⟨fuel - 1, by omega⟩
    have hstep : StreamReader_skipString_lp19 (ax_F (m + 2)) (fuel + 1) = StreamReader_skipString_bd19 (ax_F (m + 2)) (StreamReader_skipString_lp19 (ax_F (m + 2)) fuel) := rfl
    have bb := bSt_b X.2.2.2.2.2.1 q0
    rw [hstep]
    unfold StreamReader_skipString_bd19
    rw [if_neg (show ¬ Int32.ofInt n ≤ Int32.ofInt i from by rw [zi_le (by omega) (by omega) (by omega) (by omega)]; omega), sH_sron, pl_ci (Sr_chr X q0 q1), show stE b (k + 1) q = if chO b q then stE b k (q + 1) else -1 - q from rfl]
    by_cases c : chO b q
    · have lt := bb.2.2.1 (by have := c.1; omega)
      rw [if_pos c, if_pos c, if_pos c, if_pos c, if_neg (show ¬ Int32.ofInt 1 = 0 from by decide), show (1 : Int32) = Int32.ofInt 1 from rfl, zi_add, show (i : Int) + 1 = ((i + 1 : Nat) : Int) by omega]
      exact Sr_strL X k (i + 1) fuel n (q + 1) _ (by omega) hn (by omega) (by omega) (by omega)
    · rw [if_neg c, if_neg c, if_neg c, if_neg c, if_pos (show Int32.ofInt 0 = 0 from rfl)]
      refine ⟨x, ?_⟩
      rw [if_neg (by omega), if_neg (by omega), show -1 - (-1 - q) = q by omega]
      exact za_rz (v := 0) (Or.inl rfl)
theorem Sr_str {m : Nat} {q : Int} {x : Int64} (X : stX g cu sr sc N b) (q0 : 0 ≤ q) (q1 : q ≤ N) : stR g cu sr sc N (ax_F (m + 3) 114 [ax_A (some sr)] (sH g cu sr sc N q x)) (spSt b q) := by
  have n64 := X.2.2.2.2.1
  have bb := bSt_b X.2.2.2.2.2.1 q0
  have cn := Sr_cnt (m := m) (x := x) (mo := 12) X q0 (by omega) (by omega) (by omega)
  rw [show (12 : Int) + 1 = 13 by omega] at cn
  rw [StreamReader_skipString_F]
  unfold StreamReader_skipString_b spSt
  rw [sH_sron, pl_ci (show ax_F (m + 2) 115 [ax_A (some sr), ax_I 12] (sH g cu sr sc N q x) = _ from cn)]
  by_cases c : hfO b 13 q
  · have lt := bb.2.2.1 c.1
    have := c.2.2
    have := c.1
    rw [if_pos c, if_pos c, if_pos c, if_pos c, if_neg (show ¬ Int32.ofInt 1 = 0 from by decide), sH_gl2, Option.bind_some, show b q / 2 = ((b q / 2).toNat : Int) by omega, zb_32 _ (by omega), show (((b q / 2).toNat : Nat) : Int).toNat = (b q / 2).toNat by omega]
    exact Sr_strL X (b q / 2).toNat 0 ax_fuel (b q / 2).toNat (q + 1) _ (by omega) (by omega) (by omega) (by omega) (by unfold ax_fuel; omega)
  · rw [if_neg c, if_neg c, if_neg c, if_neg c, if_pos (show Int32.ofInt 0 = 0 from rfl)]
    refine ⟨x, ?_⟩
    rw [if_neg (by omega), if_neg (by omega), show -1 - (-1 - q) = q by omega]
    exact za_rz (v := 0) (Or.inl rfl)
end SRL
