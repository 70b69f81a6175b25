/-- the loop of readSchema: at p, called y, state st -/
def rs (m : Nat) (h : ax_Hp) (tb : Int) (fuel : Nat) (p y st : Int) (s : mS) : ax_O := Model_readSchema_lp52 (ax_F (m + 8)) fuel (some 24) (Int32.ofInt tb) (Int32.ofInt p) (Int32.ofInt y) (Int32.ofInt st) (mH h s)
theorem rs_s (m : Nat) (h : ax_Hp) (tb : Int) (fuel : Nat) (p y st : Int) (s : mS) : rs m h tb (fuel + 1) p y st s = Model_readSchema_bd52 (ax_F (m + 8)) (Model_readSchema_lp52 (ax_F (m + 8)) fuel) (some 24) (Int32.ofInt tb) (Int32.ofInt p) (Int32.ofInt y) (Int32.ofInt st) (mH h s) := rfl
theorem rs_neg {m : Nat} {h : ax_Hp} {tb : Int} {fuel : Nat} {p y st : Int} {s : mS} (h1 : p < 0) (h2 : -1000000 ≤ p) : rs m h tb (fuel + 1) p y st s = some (.inl (some (ax_I (Int32.ofInt (-1 - p)))), mH h s) := by
  rw [rs_s]
  unfold Model_readSchema_bd52 Model_readSchema_jn128
  rw [if_pos (show Int32.ofInt p < 0 from by rw [zi_0, zi_lt (by omega) (by omega) (by omega) (by omega)]; exact h1), if_neg (show ¬ (0 : Int32) ≤ Int32.ofInt p from by rw [zi_0, zi_le (by omega) (by omega) (by omega) (by omega)]; omega), show (-1 : Int32) = Int32.ofInt (-1) from rfl, zi_sub]
  rfl
theorem rs_0 {m : Nat} {h : ax_Hp} {tb : Int} {fuel : Nat} {p y : Int} {s : mS} (h1 : 0 ≤ p) (h2 : p ≤ 1000000) : rs m h tb (fuel + 1) p y 0 s = some (.inl (some (ax_I (Int32.ofInt (-1)))), mH h s) := by
  rw [rs_s]
  unfold Model_readSchema_bd52 Model_readSchema_jn128
  rw [if_neg (show ¬ Int32.ofInt p < 0 from by rw [zi_0, zi_lt (by omega) (by omega) (by omega) (by omega)]; omega), if_pos (show Int32.ofInt 0 ≤ 0 from by decide), if_pos (show (0 : Int32) ≤ Int32.ofInt p from by rw [zi_0, zi_le (by omega) (by omega) (by omega) (by omega)]; omega)]
  rfl
theorem rs_1 {m : Nat} {h : ax_Hp} {tb : Int} {fuel : Nat} {p y v : Int} {s s1 : mS} (h1 : 0 ≤ p) (h2 : p ≤ 1000000) (e : ax_F (m + 8) 154 [ax_A (some 24), ax_I (Int32.ofInt tb), ax_I (Int32.ofInt p)] (mH h s) = some (.inl (some (ax_I (Int32.ofInt v))), mH h s1)) : rs m h tb (fuel + 1) p y 1 s = rs m h tb fuel v y (s1.1 38) s1 := by
  rw [rs_s]
  unfold Model_readSchema_bd52
  rw [if_neg (show ¬ Int32.ofInt p < 0 from by rw [zi_0, zi_lt (by omega) (by omega) (by omega) (by omega)]; omega), if_neg (show ¬ Int32.ofInt 1 ≤ 0 from by decide), if_pos (show Int32.ofInt 1 = 1 from rfl), mS_on, pl_ci e]
  rfl
theorem rs_2 {m : Nat} {h : ax_Hp} {tb : Int} {fuel : Nat} {p y v : Int} {s s1 : mS} (h1 : 0 ≤ p) (h2 : p ≤ 1000000) (e : ax_F (m + 8) 171 [ax_A (some 24), ax_I (Int32.ofInt tb), ax_I (Int32.ofInt p), ax_I (Int32.ofInt y)] (mH h s) = some (.inl (some (ax_I (Int32.ofInt v))), mH h s1)) : rs m h tb (fuel + 1) p y 2 s = rs m h tb fuel v 0 (s1.1 38) s1 := by
  rw [rs_s]
  unfold Model_readSchema_bd52
  rw [if_neg (show ¬ Int32.ofInt p < 0 from by rw [zi_0, zi_lt (by omega) (by omega) (by omega) (by omega)]; omega), if_neg (show ¬ Int32.ofInt 2 ≤ 0 from by decide), if_neg (show ¬ Int32.ofInt 2 = 1 from by decide), if_pos (show Int32.ofInt 2 = 2 from rfl), mS_on, pl_ci e]
  rfl
theorem rs_3 {m : Nat} {h : ax_Hp} {tb : Int} {fuel : Nat} {p y v : Int} {s : mS} {c : Int → Int} (T : isT s tb c) (htb : tb = 0 ∨ tb = 1) (h1 : 0 ≤ p) (h2 : p ≤ 1000) (e : ax_F (m + 8) 177 [ax_A (some 24), ax_I (Int32.ofInt tb), ax_I (Int32.ofInt p)] (mH h s) = some (.inl (some (ax_I (Int32.ofInt v))), mH h s)) : rs m h tb (fuel + 1) p y 3 s = rs m h tb fuel v (c p) 2 s := by
  rw [rs_s]
  unfold Model_readSchema_bd52
  rw [if_neg (show ¬ Int32.ofInt p < 0 from by rw [zi_0, zi_lt (by omega) (by omega) (by omega) (by omega)]; omega), if_neg (show ¬ Int32.ofInt 3 ≤ 0 from by decide), if_neg (show ¬ Int32.ofInt 3 = 1 from by decide), if_neg (show ¬ Int32.ofInt 3 = 2 from by decide), mS_on, pl_ci (Model_look_z T (by omega) (by omega) h1 (by omega)), mS_on, pl_ci e]
  rfl
/-- how many nodes may stand at place p: three for two places, and some more -/
def gsT : Nat → Int
  | 0 => 1
  | 1 => 2
  | 2 => 3
  | 3 => 4
  | 4 => 7
  | 5 => 11
  | _ => 29
def hsT : Nat → Int
  | 0 => 1
  | 1 => 2
  | 2 => 3
  | 3 => 4
  | 4 => 5
  | 5 => 8
  | _ => 29
def gfT : Nat → Int
  | 0 => 1
  | 1 => 2
  | 2 => 3
  | 3 => 5
  | 4 => 9
  | 5 => 14
  | _ => 34
def hfT : Nat → Int
  | 0 => 1
  | 1 => 2
  | 2 => 3
  | 3 => 4
  | 4 => 6
  | 5 => 10
  | _ => 34
def gS (c : Int → Int) (D : Nat) (p : Int) : Int := if c p = 85 then gsT D else hsT D
def gF (c : Int → Int) (D : Nat) (p : Int) : Int := if c p = 85 then gfT D else hfT D
/-- a type is read: n its node, z nodes in all -/
def tyP (s s' : mS) (c : Int → Int) (tb n o p e y z : Int) (D : Nat) : Prop := (∀ k, k ≠ 26 → k ≠ 29 → k ≠ 30 → k ≠ 31 → k ≠ 38 → k ≠ 40 → s'.1 k = s.1 k) ∧ s'.1 26 = o ∧ s'.2.2.2 = s.2.2.2 ∧ (∀ k, (k < 16 ∨ 25 < k) → k ≠ 27 → k ≠ 28 → k ≠ 32 → k ≠ 33 → k ≠ 34 → k ≠ 35 → k ≠ 41 → s'.2.2.1 k = s.2.2.1 k) ∧ (∀ i : Nat, i ≠ tb.toNat → s'.2.2.1 16 i = s.2.2.1 16 i) ∧ s'.2.2.1 16 tb.toNat = n + z - 120 * tb ∧ (∀ k, 17 ≤ k → k ≤ 24 → ∀ i : Nat, (i : Int) < n → s'.2.2.1 k i = (grS s tb n (c p) y o).2.2.1 k i) ∧ (∀ k, 17 ≤ k → k ≤ 24 → ∀ i : Nat, n + z ≤ i → s'.2.2.1 k i = s.2.2.1 k i) ∧ (s'.2.2.1 19 n.toNat = -1 ∧ s'.2.2.1 21 n.toNat = y ∧ s'.2.2.1 24 n.toNat = -1) ∧ (∀ i : Nat, (i : Int) < o → s'.2.2.1 27 i = s.2.2.1 27 i) ∧ (∀ i : Nat, (i : Int) < o → s'.2.2.1 28 i = (grS s tb n (c p) y o).2.2.1 28 i) ∧ (∀ i : Nat, ((i : Int) < 160 * tb + p ∨ 160 * tb + e ≤ i) → s'.2.2.1 25 i = s.2.2.1 25 i) ∧ NdS s'.2.2.1 c D n p
theorem tyP.gl {s s' : mS} {c : Int → Int} {tb n o p e y z : Int} {D : Nat} (h : tyP s s' c tb n o p e y z D) : glF s s' := ⟨fun k _ k2 k3 k4 k5 k6 k7 => h.1 k k2 k3 k4 k5 k6 k7, h.2.2.1, fun k _ k2 k3 k4 k5 k6 k7 k8 k9 => h.2.2.2.1 k k2 k3 k4 k5 k6 k7 k8 k9⟩
/-- the place i lies in a default inside the type at p -/
def spX (c : Int → Int) : Nat → Int → Int → Prop
  | 0, p, i => c p = 69 ∧ spEq c p ∧ p + 2 + spSy c (p + 2) 8 0 ≤ i ∧ i < p + 2 + spSy c (p + 2) 8 0 + 2
  | D + 1, p, i => (c p = 69 ∧ spEq c p ∧ p + 2 + spSy c (p + 2) 8 0 ≤ i ∧ i < p + 2 + spSy c (p + 2) 8 0 + 2) ∨ (c p = 65 ∧ spX c D (p + 1) i) ∨ (c p = 85 ∧ ∃ x ∈ spPt c (D + 1) p, spX c D x i) ∨ (c p = 82 ∧ ∃ x ∈ spPt c (D + 1) p, spX c D (x + 2) i ∨ (c (spTy c D (x + 2)) = 61 ∧ spTy c D (x + 2) ≤ i ∧ i < spFe c (spTy c D) (spVal c c false D) x))
def fdX (c : Int → Int) (D : Nat) (x i : Int) : Prop := spX c D (x + 2) i ∨ (c (spTy c D (x + 2)) = 61 ∧ spTy c D (x + 2) ≤ i ∧ i < spFe c (spTy c D) (spVal c c false D) x)
theorem spX_A {c : Int → Int} {D : Nat} {p i : Int} (h : c p = 65) : spX c (D + 1) p i ↔ spX c D (p + 1) i := by
  refine ⟨fun z => ?_, fun z => Or.inr (Or.inl ⟨h, z⟩)⟩
  rcases z with z | z | z | z
  · exact absurd z.1 (by omega)
  · exact z.2
  · exact absurd z.1 (by omega)
  · exact absurd z.1 (by omega)
theorem spX_U {c : Int → Int} {D : Nat} {p i : Int} (h : c p = 85) : spX c (D + 1) p i ↔ ∃ x ∈ spPt c (D + 1) p, spX c D x i := by
  refine ⟨fun z => ?_, fun z => Or.inr (Or.inr (Or.inl ⟨h, z⟩))⟩
  rcases z with z | z | z | z
  · exact absurd z.1 (by omega)
  · exact absurd z.1 (by omega)
  · exact z.2
  · exact absurd z.1 (by omega)
theorem spX_R {c : Int → Int} {D : Nat} {p i : Int} (h : c p = 82) : spX c (D + 1) p i ↔ ∃ x ∈ spPt c (D + 1) p, fdX c D x i := by
  refine ⟨fun z => ?_, fun z => Or.inr (Or.inr (Or.inr ⟨h, z⟩))⟩
  rcases z with z | z | z | z
  · exact absurd z.1 (by omega)
  · exact absurd z.1 (by omega)
  · exact absurd z.1 (by omega)
  · exact z.2
theorem spX_E {c : Int → Int} {D : Nat} {p i : Int} (h : c p = 69) : spX c D p i ↔ spEq c p ∧ p + 2 + spSy c (p + 2) 8 0 ≤ i ∧ i < p + 2 + spSy c (p + 2) 8 0 + 2 := by
  cases D with
  | zero => exact ⟨fun z => z.2, fun z => ⟨h, z⟩⟩
  | succ D =>
    refine ⟨fun z => ?_, fun z => Or.inl ⟨h, z⟩⟩
    rcases z with z | z | z | z
    · exact z.2
    · exact absurd z.1 (by omega)
    · exact absurd z.1 (by omega)
    · exact absurd z.1 (by omega)
theorem spX_n {c : Int → Int} {D : Nat} {p i : Int} (h : c p ≠ 69 ∧ c p ≠ 65 ∧ c p ≠ 85 ∧ c p ≠ 82) : ¬ spX c D p i := by
  cases D with
  | zero => exact fun z => h.1 z.1
  | succ D =>
    intro z
    rcases z with z | z | z | z
    · exact h.1 z.1
    · exact h.2.1 z.1
    · exact h.2.2.1 z.1
    · exact h.2.2.2 z.1
/-- the places of table tb that are marked between two states -/
def exM (s s' : mS) (P : Int → Prop) (tb : Int) : Prop := ∀ i : Nat, (P ((i : Int) - 160 * tb) → s'.2.2.1 25 i = 1) ∧ (¬ P ((i : Int) - 160 * tb) → s'.2.2.1 25 i = s.2.2.1 25 i)
theorem exM_0 {s s' : mS} {P : Int → Prop} {tb : Int} (h : s'.2.2.1 25 = s.2.2.1 25) (hp : ∀ i, ¬ P i) : exM s s' P tb := fun i => ⟨fun z => absurd z (hp _), fun _ => congrFun h i⟩
theorem exM.trans {s s1 s2 : mS} {P Q : Int → Prop} {tb : Int} (h : exM s s1 P tb) (h1 : exM s1 s2 Q tb) : exM s s2 (fun i => P i ∨ Q i) tb := fun i => by
  refine ⟨fun z => ?_, fun z => ((h1 i).2 (fun y => z (Or.inr y))).trans ((h i).2 (fun y => z (Or.inl y)))⟩
  by_cases q : Q ((i : Int) - 160 * tb)
  · exact (h1 i).1 q
  · exact ((h1 i).2 q).trans ((h i).1 (z.resolve_right q))
theorem exM_c {s s' : mS} {P Q : Int → Prop} {tb : Int} (h : exM s s' P tb) (e : ∀ i, P i ↔ Q i) : exM s s' Q tb := fun i => ⟨fun z => (h i).1 ((e _).mpr z), fun z => (h i).2 (fun y => z ((e _).mp y))⟩
theorem exM_l {s s0 s' : mS} {P : Int → Prop} {tb : Int} (h : exM s s' P tb) (e : s.2.2.1 25 = s0.2.2.1 25) : exM s0 s' P tb := fun i => ⟨(h i).1, fun z => ((h i).2 z).trans (congrFun e i)⟩
theorem exM_r {s s' s'' : mS} {P : Int → Prop} {tb : Int} (h : exM s s' P tb) (e : s''.2.2.1 25 = s'.2.2.1 25) : exM s s'' P tb := fun i => ⟨fun z => (congrFun e i).trans ((h i).1 z), fun z => (congrFun e i).trans ((h i).2 z)⟩
theorem exM_E {s s' : mS} {c : Int → Int} {tb p : Int} {D : Nat} (hE : c p = 69) (h : ∀ i : Nat, s'.2.2.1 25 i = if c (p + 2 + spSy c (p + 2) 8 0) = 61 ∧ ((i : Int) = 160 * tb + (p + 2 + spSy c (p + 2) 8 0) ∨ (i : Int) = 160 * tb + (p + 2 + spSy c (p + 2) 8 0) + 1) then 1 else s.2.2.1 25 i) : exM s s' (spX c D p) tb := fun i => by
  refine ⟨fun z => ?_, fun z => ?_⟩
  · obtain ⟨z1, z2, z3⟩ := (spX_E hE).mp z
    rw [h i, if_pos ⟨z1, by omega⟩]
  · rw [h i, if_neg (fun w => z ((spX_E hE).mpr ⟨w.1, by omega, by omega⟩))]
theorem ex_app {L : List Int} {q : Int} {P : Int → Prop} : (∃ y ∈ L ++ [q], P y) ↔ (∃ y ∈ L, P y) ∨ P q := by
  refine ⟨fun ⟨y, h1, h2⟩ => ?_, fun z => ?_⟩
  · rcases List.mem_append.mp h1 with h | h
    · exact Or.inl ⟨y, h, h2⟩
    · rw [List.mem_singleton.mp h] at h2; exact Or.inr h2
  · rcases z with ⟨y, h1, h2⟩ | h
    · exact ⟨y, List.mem_append.mpr (Or.inl h1), h2⟩
    · exact ⟨q, List.mem_append.mpr (Or.inr (List.mem_singleton.mpr rfl)), h⟩
theorem ex_nil {P : Int → Prop} : ¬ ∃ y ∈ ([] : List Int), P y := fun ⟨_, h, _⟩ => absurd h List.not_mem_nil
/-- reading the type at p, of level D, does what the text says -/
def simT (m : Nat) (h : ax_Hp) (c : Int → Int) (tb : Int) (D : Nat) : Prop := ∀ (s : mS) (o a p y x : Int), pr0 s c tb o a p → o + D = 6 → parOk s c o (c p) → (0 ≤ y ∧ y < 128) → s.1 39 = 0 → (0 ≤ s.1 7 ∧ s.1 7 ≤ 1000000) → 3 * a ≤ 2 * p + x → x + gF c D p ≤ 40 →
  (0 ≤ spTy c D p → ∃ (k : Nat) (s' : mS), (k : Int) ≤ 4 * (spTy c D p - p) ∧ (∀ fuel, rs m h tb (fuel + k) p y 2 s = rs m h tb fuel (spTy c D p) 0 1 s') ∧ tyP s s' c tb (120 * tb + a) o p (spTy c D p) y (spN c D p) D ∧ 3 * (a + spN c D p) ≤ 2 * spTy c D p + x + gS c D p ∧ exM s s' (spX c D p) tb) ∧
  (spTy c D p < 0 → ∃ (k : Nat) (s' : mS), (k : Int) ≤ 4 * (170 - p) ∧ (∀ fuel, rs m h tb (fuel + k) p y 2 s = some (.inl (some (ax_I (Int32.ofInt (-1 - spTy c D p)))), mH h s')) ∧ glF s s')
/-- the letter alone: a plain type -/
theorem lS_P {s : mS} {c : Int → Int} {tb o a p y : Int} (R : pr0 s c tb o a p) : (∀ k, k ≠ 38 → (lS s tb (120 * tb + a) (c p) y o).1 k = s.1 k) ∧ (lS s tb (120 * tb + a) (c p) y o).1 38 = 1 ∧ (lS s tb (120 * tb + a) (c p) y o).2.2.2 = s.2.2.2 ∧ (∀ k, k < 16 ∨ 24 < k → k ≠ 28 → (lS s tb (120 * tb + a) (c p) y o).2.2.1 k = s.2.2.1 k) ∧ (∀ i : Nat, i ≠ tb.toNat → (lS s tb (120 * tb + a) (c p) y o).2.2.1 16 i = s.2.2.1 16 i) ∧ (lS s tb (120 * tb + a) (c p) y o).2.2.1 16 tb.toNat = a + 1 ∧ (∀ k, (lS s tb (120 * tb + a) (c p) y o).2.2.1 k = (grS s tb (120 * tb + a) (c p) y o).2.2.1 k) ∧ (∀ k, 17 ≤ k → k ≤ 24 → ∀ i : Nat, 120 * tb + a + 1 ≤ i → (lS s tb (120 * tb + a) (c p) y o).2.2.1 k i = s.2.2.1 k i) ∧ ((lS s tb (120 * tb + a) (c p) y o).2.2.1 17 (120 * tb + a).toNat = c p ∧ (lS s tb (120 * tb + a) (c p) y o).2.2.1 18 (120 * tb + a).toNat = -1 ∧ (lS s tb (120 * tb + a) (c p) y o).2.2.1 19 (120 * tb + a).toNat = -1 ∧ (lS s tb (120 * tb + a) (c p) y o).2.2.1 20 (120 * tb + a).toNat = 0 ∧ (lS s tb (120 * tb + a) (c p) y o).2.2.1 21 (120 * tb + a).toNat = y ∧ (lS s tb (120 * tb + a) (c p) y o).2.2.1 22 (120 * tb + a).toNat = -1 ∧ (lS s tb (120 * tb + a) (c p) y o).2.2.1 23 (120 * tb + a).toNat = -1 ∧ (lS s tb (120 * tb + a) (c p) y o).2.2.1 24 (120 * tb + a).toNat = -1) := by
  obtain ⟨T, htb, ho, hob, ha, hab, hp, hpr⟩ := R
  obtain ⟨g1, g2, g3, g4, g5, g6, g7, g8, g9, g10⟩ := grS_f (s := s) (t := tb) (n := 120 * tb + a) (x := c p) (y := y) (o := o) (by omega) (fun z => by have := hpr z; exact ⟨by omega, by omega, fun w => by have := this.2.2.2.2 w; omega⟩)
  have e : ∀ k, (lS s tb (120 * tb + a) (c p) y o).2.2.1 k = (grS s tb (120 * tb + a) (c p) y o).2.2.1 k := fun k => rfl
  refine ⟨fun k hk => by unfold lS; rw [mI_1, if_neg hk, g1], rfl, g2, fun k hk k28 => (e k).trans (g3 k hk k28), fun i hi => by rw [e, g4, if_neg hi], by rw [e, g4, if_pos rfl, ha], e, fun k k1 k2 i hi => ?_, g10⟩
  rw [e]
  by_cases j18 : k = 18
  · rw [j18, g6 i (by omega), if_neg (fun z => by have := hpr z.1; omega)]
  · by_cases j19 : k = 19
    · rw [j19, g7 i (by omega), if_neg (fun z => by have := (hpr z.1).2.2.2.2 z.2.1; omega)]
    · by_cases j20 : k = 20
      · rw [j20, g8 i (by omega), if_neg (fun z => by have := hpr z.1; omega)]
      · exact g5 k (by omega) i (by omega)
