/-- a chain of nodes, one for each place of the list -/
def ndCh (nx : Nat → Int) (P : Int → Int → Prop) : Int → List Int → Prop
  | n, [] => n = -1
  | n, x :: l => 0 ≤ n ∧ n < 240 ∧ P n x ∧ ndCh nx P (nx n.toNat) l
/-- where the default of the field at x begins, -1 without one -/
def spGv (c : Int → Int) (D : Nat) (x : Int) : Int := if c (spTy c D (x + 2)) = 61 then spTy c D (x + 2) + 1 else -1
/-- node n stands for the type at t, of level D -/
def Nd (A : Nat → Nat → Int) (c : Int → Int) : Nat → Int → Int → Prop
  | 0, n, t => lfN A c n t ∧ c t ≠ 65 ∧ c t ≠ 85 ∧ c t ≠ 82
  | D + 1, n, t => lfN A c n t ∧ (c t = 65 → Nd A c D (A 18 n.toNat) (t + 1))
    ∧ (c t = 85 → A 20 n.toNat = (spPt c (D + 1) t).length ∧ (∃ l, spPt c (D + 1) t = (t + 2) :: l) ∧ ndCh (A 19) (fun m x => c x ≠ 85 ∧ Nd A c D m x) (A 18 n.toNat) (spPt c (D + 1) t))
    ∧ (c t = 82 → A 20 n.toNat = (spPt c (D + 1) t).length ∧ (∃ l, spPt c (D + 1) t = (t + 2) :: l) ∧ ndCh (A 19) (fun m x => A 21 m.toNat = c x ∧ A 24 m.toNat = spGv c D x ∧ Nd A c D m (x + 2)) (A 18 n.toNat) (spPt c (D + 1) t))
/-- what elements and fields say; how many elements; the numbers of elements of the arrays, in order -/
def spElO (sp : Int) (v f : Int → Int) (g : Int → List Int) : Nat → Int → List Int
  | 0, _ => []
  | k + 1, q => g q ++ (if v (f q) = 93 then [] else (if sp = 2 then [44] else []) ++ spElO sp v f g k (f q + 1))
def spElN (v f : Int → Int) : Nat → Int → Nat
  | 0, _ => 0
  | k + 1, q => 1 + (if v (f q) = 93 then 0 else spElN v f k (f q + 1))
def spElA (v f : Int → Int) (g : Int → List Int) : Nat → Int → List Int
  | 0, _ => []
  | k + 1, q => g q ++ (if v (f q) = 93 then [] else spElA v f g k (f q + 1))
def spFsO (sp : Int) (f : Int → Int → Int) (g : Int → Int → List Int) : List Int → Int → List Int
  | [], _ => []
  | [x], q => g (x + 2) q
  | x :: y :: l, q => g (x + 2) q ++ ((if sp = 2 then [44] else []) ++ spFsO sp f g (y :: l) (f (x + 2) q + 1))
def spFsA (f : Int → Int → Int) (g : Int → Int → List Int) : List Int → Int → List Int
  | [], _ => []
  | [x], q => g (x + 2) q
  | x :: y :: l, q => g (x + 2) q ++ spFsA f g (y :: l) (f (x + 2) q + 1)
def mst (val : Bool) : Nat := if val then 20 else 3
def spO1 (sp : Int) (c v : Int → Int) (val : Bool) (pt : Int → List Int) (f : Int → Int → Int) (g : Int → Int → List Int) (t q : Int) : List Int :=
  if c t = 65 then
    (if v (q + 1) = 93 then (if sp = 1 then [0] else if sp = 2 then [91, 93] else [])
     else (if sp = 1 then [2 * (spElN v (f (t + 1)) (mst val) (q + 1) : Int)] else if sp = 2 then [91] else []) ++ (spElO sp v (f (t + 1)) (g (t + 1)) (mst val) (q + 1) ++ (if sp = 1 then [0] else if sp = 2 then [93] else [])))
  else if c t = 85 then
    (if val then (if sp = 1 then [2 * (v q - 48)] else if sp = 2 then [v q, v (q + 1)] else []) ++ g ((pt t).getD (v q - 48).toNat 0) (q + 2)
     else (if sp = 2 then [48, 58] else []) ++ g (t + 2) q)
  else if c t = 82 then (if sp = 2 then [123] else []) ++ (spFsO sp f g (pt t) (q + 1) ++ (if sp = 2 then [125] else []))
  else spLo sp c v t q
def spA1 (c v : Int → Int) (val : Bool) (pt : Int → List Int) (f : Int → Int → Int) (g : Int → Int → List Int) (t q : Int) : List Int :=
  if c t = 65 then (if v (q + 1) = 93 then [0] else (spElN v (f (t + 1)) (mst val) (q + 1) : Int) :: spElA v (f (t + 1)) (g (t + 1)) (mst val) (q + 1))
  else if c t = 85 then (if val then g ((pt t).getD (v q - 48).toNat 0) (q + 2) else g (t + 2) q)
  else if c t = 82 then spFsA f g (pt t) (q + 1)
  else []
def spO (sp : Int) (c v : Int → Int) (val : Bool) : Nat → Int → Int → List Int
  | 0 => spLo sp c v
  | D + 1 => spO1 sp c v val (spPt c (D + 1)) (spVal c v val D) (spO sp c v val D)
def spA (c v : Int → Int) (val : Bool) : Nat → Int → Int → List Int
  | 0 => fun _ _ => []
  | D + 1 => spA1 c v val (spPt c (D + 1)) (spVal c v val D) (spA c v val D)
/-- the reading of a text at place q, d frames held -/
def tcx (c v : Int → Int) (val : Bool) (s : mS) (d q : Int) : Prop :=
  isT s (s.1 30) c ∧ (s.1 30 = 0 ∨ s.1 30 = 1) ∧ isV s v ∧ s.1 29 = (if val then 1 else 0) ∧ (0 ≤ s.1 39 ∧ s.1 39 ≤ 2) ∧ s.1 31 = d ∧ 0 ≤ d ∧ (0 ≤ s.1 40 ∧ 2 * s.1 40 ≤ q + d) ∧ (0 ≤ s.1 7 ∧ s.1 7 + 40 * (200 - q) ≤ 500000000) ∧ (0 ≤ q ∧ q ≤ 160)
/-- the frames below d are as they were -/
def stk (d : Int) (s s' : mS) : Prop := ∀ k, k = 32 ∨ k = 33 ∨ k = 34 ∨ k = 35 → ∀ i : Nat, (i : Int) < d → s'.2.2.1 k i = s.2.2.1 k i
theorem stk_refl (d : Int) (s : mS) : stk d s s := fun _ _ _ _ => rfl
theorem stk.trans {d : Int} {s s1 s2 : mS} (h : stk d s s1) (h1 : stk d s1 s2) : stk d s s2 := fun k hk i hi => (h1 k hk i hi).trans (h k hk i hi)
theorem stk_le {d d' : Int} {s s' : mS} (h : stk d' s s') (hd : d ≤ d') : stk d s s' := fun k hk i hi => h k hk i (by omega)
theorem syF.stk {s s' : mS} (h : syF s s') (d : Int) : stk d s s' := fun k hk i _ => by rw [h.2.1 k (by omega)]
/-- the arrays opened in between: their numbers of elements -/
def els (s s' : mS) (l : List Int) : Prop := s'.1 40 = s.1 40 + l.length ∧ (∀ i : Nat, (i : Int) < s.1 40 → s'.2.2.1 41 i = s.2.2.1 41 i) ∧ (s.1 39 ≠ 1 → ∀ j : Nat, j < l.length → s'.2.2.1 41 (s.1 40 + j).toNat = l.getD j 0) ∧ (s.1 39 = 1 → s'.2.2.1 41 = s.2.2.1 41)
theorem els_0 {s s' : mS} (h1 : s'.1 40 = s.1 40) (h2 : s'.2.2.1 41 = s.2.2.1 41) : els s s' [] := ⟨by rw [h1]; show s.1 40 = s.1 40 + ((0 : Nat) : Int); omega, fun i _ => by rw [h2], fun _ j hj => absurd hj (Nat.not_lt_zero _), fun _ => h2⟩
theorem els.trans {s s1 s2 : mS} {l k : List Int} (h0 : 0 ≤ s.1 40) (hsp : s1.1 39 = s.1 39) (h : els s s1 l) (h1 : els s1 s2 k) : els s s2 (l ++ k) := by
  obtain ⟨a1, a2, a3, a4⟩ := h
  obtain ⟨b1, b2, b3, b4⟩ := h1
  refine ⟨by rw [b1, a1, List.length_append]; omega, fun i hi => (b2 i (by omega)).trans (a2 i hi), fun z j hj => ?_, fun z => (b4 (by omega)).trans (a4 z)⟩
  rw [List.length_append] at hj
  by_cases c : j < l.length
  · rw [b2 (s.1 40 + j).toNat (by omega), a3 z j c]
    rw [List.getD_eq_getElem?_getD, List.getD_eq_getElem?_getD, List.getElem?_append_left c]
  · have := b3 (by omega) (j - l.length) (by omega)
    rw [show (s1.1 40 + ((j - l.length : Nat) : Int)).toNat = (s.1 40 + j).toNat by omega] at this
    rw [this, List.getD_eq_getElem?_getD, List.getD_eq_getElem?_getD, List.getElem?_append_right (by omega)]
/-- for the second pass: the numbers are there -/
def elh (s : mS) (l : List Int) : Prop := s.1 39 = 1 → ∀ j : Nat, j < l.length → s.2.2.1 41 (s.1 40 + j).toNat = l.getD j 0
theorem elh_l {s : mS} {l k : List Int} (h : elh s (l ++ k)) : elh s l := fun z j hj => by
  have := h z j (by rw [List.length_append]; omega)
  rw [this, List.getD_eq_getElem?_getD, List.getD_eq_getElem?_getD, List.getElem?_append_left hj]
theorem elh_r {s s1 : mS} {l k : List Int} (h : elh s (l ++ k)) (e : els s s1 l) (hsp : s1.1 39 = s.1 39) : elh s1 k := fun z j hj => by
  have := h (by omega) (l.length + j) (by rw [List.length_append]; omega)
  rw [e.2.2.2 (by omega), e.1, show (s.1 40 + (l.length : Int) + (j : Int)).toNat = (s.1 40 + ((l.length + j : Nat) : Int)).toNat by omega, this, List.getD_eq_getElem?_getD, List.getD_eq_getElem?_getD, List.getElem?_append_right (by omega), Nat.add_sub_cancel_left]
/-- read: at e, with what was said and the arrays opened -/
def txD (s s' : mS) (d : Int) (o a : List Int) : Prop := txF s s' ∧ s'.1 31 = d ∧ s'.1 38 = 1 ∧ stk d s s' ∧ said s s' o ∧ els s s' a
