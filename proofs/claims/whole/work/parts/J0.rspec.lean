/-- one after the other, if both are said -/
def cat2 (a b : Option (List Int)) : Option (List Int) := a.bind (fun x => b.map (fun y => x ++ y))
/-- k figures of n -/
def dgN (n : Nat) : Nat → List Int
  | 0 => []
  | k + 1 => (48 + ((n / 10 ^ k % 10 : Nat) : Int)) :: dgN n k
def fcN : Nat → Nat → Nat
  | 0, _ => 0
  | f + 1, m => if m = 0 then 0 else fcN f (m / 10) + 1
def fgN (n : Nat) : Nat := 1 + fcN 18 (n / 10)
/-- a number's figures -/
def decL (v : Int64) : List Int := (if v.toInt < 0 then [45] else []) ++ dgN v.toInt.natAbs (fgN v.toInt.natAbs)
/-- k elements -/
def rxE (f : Int → Int) (g : Int → Option (List Int)) : Nat → Bool → Int → Option (List Int)
  | 0, _, _ => some []
  | k + 1, fst, q => cat2 (some (if fst then [] else [44])) (cat2 (g q) (rxE f g k false (f q)))
def rxA (b f : Int → Int) (g : Int → Option (List Int)) : Nat → Nat → Int → Option (List Int)
  | 0, _, _ => none
  | p + 1, left, q => if b q = 0 then some [93] else cat2 (rxE f g (b q / 2).toNat (decide (left = 20)) (q + 1)) (rxA b f g p (left - (b q / 2).toNat) (seE f (b q / 2).toNat (q + 1)))
def rxF (g : Int → Option (List Int)) : List Int → Option (List Int)
  | [] => none
  | [x] => cat2 (g x) (some [125])
  | x :: y :: l => cat2 (g x) (cat2 (some [44]) (rxF g (y :: l)))
/-- where the writer's field y begins -/
def spAt (f : Int → Int → Int) (y : Int) : List Int → Int → Int
  | [], q => q
  | x :: l, q => if x = y then q else spAt f y l (f (x + 2) q)
def rxS (b : Int → Int) : Nat → Int → List Int
  | 0, _ => [34]
  | k + 1, q => b q :: rxS b k (q + 1)
/-- the symbol that is said -/
def rxY (c : Int → Int) (r y : Int) : Option (List Int) := if spIx c (r + 2) y (spSy c (r + 2) 8 0) = -1 then (if spSd c r = -1 then none else some [spSd c r]) else some [y]
def rxP (c d b : Int → Int) (r w q : Int) : Option (List Int) :=
  if d w = 78 then some [78]
  else if d w = 66 then some [if b q = 1 then 84 else 70]
  else if d w = 69 then rxY c r (d (w + 2 + b q / 2))
  else if d w = 83 then some (34 :: rxS b (b q / 2).toNat (q + 1))
  else some (decL (spNv b (decide (d w = 76)) q))
def rxD (c : Int → Int) (D : Nat) (x : Int) : Option (List Int) := if spGv c D x = -1 then none else some (spO 2 c c false D (x + 2) (spGv c D x))
/-- what is said of the writer's value at q (type w of text d, level D2) as the reader's type r (text c, level D1) -/
def rsv (c d b : Int → Int) : Nat → Nat → Nat → Int → Int → Int → Option (List Int)
  | 0, _, _, _, _, _ => none
  | n + 1, D1, D2, r, w, q =>
    if d w = 85 then rsv c d b n D1 (D2 - 1) r ((spPt d D2 w).getD (b q / 2).toNat 0) (q + 1)
    else if c r = 85 then (if fstI (fun y => crd c d 13 (D1 - 1) D2 y w) (spPt c D1 r) 0 = -1 then none else cat2 (some [48 + fstI (fun y => crd c d 13 (D1 - 1) D2 y w) (spPt c D1 r) 0, 58]) (rsv c d b n (D1 - 1) D2 ((spPt c D1 r).getD (fstI (fun y => crd c d 13 (D1 - 1) D2 y w) (spPt c D1 r) 0).toNat 0) w q))
    else if c r = d w ∨ (d w = 73 ∧ c r = 76) then
      (if d w = 65 then cat2 (some [91]) (rxA b (spSc d b (D2 - 1) (w + 1)) (rsv c d b n (D1 - 1) (D2 - 1) (r + 1) (w + 1)) 21 20 q)
       else if d w = 82 then cat2 (some [123]) (rxF (fun x => if fnd d (c x) (spPt d D2 w) = -1 then rxD c (D1 - 1) x else rsv c d b n (D1 - 1) (D2 - 1) (x + 2) (fnd d (c x) (spPt d D2 w) + 2) (spAt (spSc d b (D2 - 1)) (fnd d (c x) (spPt d D2 w)) (spPt d D2 w) q)) (spPt c D1 r))
       else rxP c d b r w q)
    else none
theorem rsv_s (c d b : Int → Int) (n D1 D2 : Nat) (r w q : Int) : rsv c d b (n + 1) D1 D2 r w q = if d w = 85 then rsv c d b n D1 (D2 - 1) r ((spPt d D2 w).getD (b q / 2).toNat 0) (q + 1) else if c r = 85 then (if fstI (fun y => crd c d 13 (D1 - 1) D2 y w) (spPt c D1 r) 0 = -1 then none else cat2 (some [48 + fstI (fun y => crd c d 13 (D1 - 1) D2 y w) (spPt c D1 r) 0, 58]) (rsv c d b n (D1 - 1) D2 ((spPt c D1 r).getD (fstI (fun y => crd c d 13 (D1 - 1) D2 y w) (spPt c D1 r) 0).toNat 0) w q)) else if c r = d w ∨ (d w = 73 ∧ c r = 76) then (if d w = 65 then cat2 (some [91]) (rxA b (spSc d b (D2 - 1) (w + 1)) (rsv c d b n (D1 - 1) (D2 - 1) (r + 1) (w + 1)) 21 20 q) else if d w = 82 then cat2 (some [123]) (rxF (fun x => if fnd d (c x) (spPt d D2 w) = -1 then rxD c (D1 - 1) x else rsv c d b n (D1 - 1) (D2 - 1) (x + 2) (fnd d (c x) (spPt d D2 w) + 2) (spAt (spSc d b (D2 - 1)) (fnd d (c x) (spPt d D2 w)) (spPt d D2 w) q)) (spPt c D1 r)) else rxP c d b r w q) else none := rfl
/-- there is room for what is said -/
def okL (o : Option (List Int)) (L : List Int) : Bool := match o with
  | none => false
  | some k => decide (L.length + k.length ≤ 400)
theorem okL_t {o : Option (List Int)} {L : List Int} : okL o L = true ↔ ∃ k, o = some k ∧ L.length + k.length ≤ 400 := by
  cases o with
  | none => exact ⟨fun z => Bool.noConfusion z, fun ⟨k, z, _⟩ => nomatch z⟩
  | some k => exact ⟨fun z => ⟨k, rfl, of_decide_eq_true z⟩, fun ⟨k', z, z1⟩ => by cases z; exact decide_eq_true z1⟩
theorem okL_f {o : Option (List Int)} {L : List Int} : okL o L = false ↔ ∀ k, o = some k → 400 < L.length + k.length := by
  cases o with
  | none => exact ⟨(fun _ k z => nomatch z), (fun _ => rfl)⟩
  | some k => exact ⟨fun z k' e => by cases e; have := of_decide_eq_false z; omega, fun z => decide_eq_false (by have := z k rfl; omega)⟩
theorem cat2_s {k : List Int} {o : Option (List Int)} : cat2 (some k) o = o.map (fun y => k ++ y) := rfl
theorem okL_c {k : List Int} {o : Option (List Int)} {L : List Int} : okL (cat2 (some k) o) L = okL o (L ++ k) := by
  cases o with
  | none => rfl
  | some y =>
    show decide (L.length + (k ++ y).length ≤ 400) = decide ((L ++ k).length + y.length ≤ 400)
    rw [List.length_append, List.length_append, Nat.add_assoc]
theorem okL_cf {a o : Option (List Int)} {L : List Int} (h : okL a L = false) : okL (cat2 a o) L = false := by
  rw [okL_f] at h ⊢
  intro k hk
  cases a with
  | none => exact nomatch hk
  | some x =>
    cases o with
    | none => exact nomatch hk
    | some y =>
      have e : x ++ y = k := Option.some.inj hk
      have := h x rfl
      rw [← e, List.length_append]
      omega
/-- the answer of a part of resolving: whether all is said, and where the cursor stands then -/
def rsR (g : ax_Hp) (cu sr sw N dr di : Nat) (f0 : Nat → Int) (R : ax_O) (o : Option (List Int)) (e : Int) (L : List Int) (fs : Nat → Int) (a0 a1 : Int) : Prop := ∃ (q' : Int) (x' : Int64) (L' : List Int) (fs' : Nat → Int), R = some (.inl (some (ax_I (Int32.ofInt (bI (okL o L))))), dH g cu sr sw N dr di f0 q' x' L' fs') ∧ L'.length ≤ 400 ∧ (okL o L = true → (∃ k, o = some k ∧ L' = L ++ k) ∧ q' = e) ∧ ∀ i : Nat, (i : Int) < a0 ∨ a1 ≤ i → fs' i = fs i
section RSX
variable {g : ax_Hp} {rv cu sr sw sd dr di N lw lr : Nat} {w r b : Int → Int} {we wn wu re rn ru f0 : Nat → Int} {q q' e e1 : Int} {x x' : Int64} {L k : List Int} {fs fs1 : Nat → Int} {a0 a1 b0 b1 : Int} {o o1 o2 : Option (List Int)} {R : ax_O}
theorem rsR_f (h : okL o L = false) (hL : k.length ≤ 400) (hf : ∀ i : Nat, (i : Int) < a0 ∨ a1 ≤ i → fs1 i = fs i) : rsR g cu sr sw N dr di f0 (ax_rz 0 (dH g cu sr sw N dr di f0 q x k fs1)) o e L fs a0 a1 := ⟨q, x, k, fs1, by rw [h]; exact za_rz (v := 0) (Or.inl rfl), hL, fun z => by rw [h] at z; exact absurd z (by decide), hf⟩
theorem rsR_e (hL : L.length ≤ 400) : rsR g cu sr sw N dr di f0 (ax_rz 1 (dH g cu sr sw N dr di f0 q x L fs)) (some []) q L fs a0 a1 := ⟨q, x, L, fs, by rw [show okL (some []) L = true from decide_eq_true hL]; exact za_rz (v := 1) (Or.inr rfl), hL, fun _ => ⟨⟨[], rfl, (List.append_nil L).symm⟩, rfl⟩, fun _ _ => rfl⟩
theorem rsR_c (h : rsR g cu sr sw N dr di f0 R o e (L ++ k) fs1 a0 a1) (hf : ∀ i : Nat, (i : Int) < a0 ∨ a1 ≤ i → fs1 i = fs i) : rsR g cu sr sw N dr di f0 R (cat2 (some k) o) e L fs a0 a1 := by
  obtain ⟨q', x', L', fs', h1, h2, h3, h4⟩ := h
  refine ⟨q', x', L', fs', by rw [okL_c]; exact h1, h2, fun z => ?_, fun i hi => (h4 i hi).trans (hf i hi)⟩
  rw [okL_c] at z
  obtain ⟨⟨k', e1, e2⟩, e3⟩ := h3 z
  exact ⟨⟨k ++ k', by rw [e1]; rfl, by rw [e2, List.append_assoc]⟩, e3⟩
theorem rsR_k (h : rsR g cu sr sw N dr di f0 R o e L fs a0 a1) (ha : b0 ≤ a0) (hb : a1 ≤ b1) : rsR g cu sr sw N dr di f0 R o e L fs b0 b1 := by
  obtain ⟨q', x', L', fs', h1, h2, h3, h4⟩ := h
  exact ⟨q', x', L', fs', h1, h2, h3, fun i hi => h4 i (by omega)⟩
theorem rsR_q (h : rsR g cu sr sw N dr di f0 R o e L fs a0 a1) (he : e = e1) : rsR g cu sr sw N dr di f0 R o e1 L fs a0 a1 := by rw [← he]; exact h
/-- a part, and then the rest -/
theorem rsR_s {K : ax_Hp → ax_O} (h : rsR g cu sr sw N dr di f0 R o1 e1 L fs a0 a1) (h2 : ∀ (x' : Int64) (k : List Int) (fs' : Nat → Int), o1 = some k → (L ++ k).length ≤ 400 → (∀ i : Nat, (i : Int) < a0 ∨ a1 ≤ i → fs' i = fs i) → rsR g cu sr sw N dr di f0 (K (dH g cu sr sw N dr di f0 e1 x' (L ++ k) fs')) o2 e (L ++ k) fs' a0 a1) : rsR g cu sr sw N dr di f0 (ax_ci R (fun v h => if v = 0 then ax_rz 0 h else K h)) (cat2 o1 o2) e L fs a0 a1 := by
  obtain ⟨q', x', L', fs', e0, e2, e3, e4⟩ := h
  rw [pl_ci e0]
  cases c : okL o1 L with
  | false =>
    rw [if_pos (show Int32.ofInt (bI false) = 0 from rfl)]
    exact rsR_f (okL_cf c) e2 e4
  | true =>
    rw [if_neg (show ¬ Int32.ofInt (bI true) = 0 from by decide)]
    obtain ⟨⟨k, k1, k2⟩, k3⟩ := e3 c
    rw [k2] at e2
    rw [k1, k2, k3]
    exact rsR_c (h2 x' k fs' k1 e2 e4) e4
/-- a part, and nothing more -/
theorem rsR_z (h : rsR g cu sr sw N dr di f0 R o e L fs a0 a1) : rsR g cu sr sw N dr di f0 (ax_ci R (fun v h => ax_rz v h)) o e L fs a0 a1 := by
  obtain ⟨q', x', L', fs', e0, e2⟩ := h
  rw [pl_ci e0]
  exact ⟨q', x', L', fs', za_rz (bI_01 _), e2⟩
theorem rsR_t (h : rsR g cu sr sw N dr di f0 R o e L fs a0 a1) : rsR g cu sr sw N dr di f0 (ax_ci R (fun v h => if v = 0 then ax_rz 0 h else ax_rz 1 h)) o e L fs a0 a1 := by
  obtain ⟨q', x', L', fs', e0, e2⟩ := h
  rw [pl_ci e0]
  refine ⟨q', x', L', fs', ?_, e2⟩
  cases okL o L with
  | false => rw [if_pos (show Int32.ofInt (bI false) = 0 from rfl)]; exact za_rz (v := 0) (Or.inl rfl)
  | true => rw [if_neg (show ¬ Int32.ofInt (bI true) = 0 from by decide)]; exact za_rz (v := 1) (Or.inr rfl)
/-- one more is said -/
theorem rsR_a {m : Nat} {y : Int} (X : rvX g rv cu sr sw sd dr di N lw lr w r b we wn wu re rn ru) (hL : L.length ≤ 400) : rsR g cu sr sw N dr di f0 (ax_F (m + 1) 8 [ax_A (some dr), ax_I (Int32.ofInt y)] (dH g cu sr sw N dr di f0 q x L fs)) (some [y]) q L fs a0 a1 := by
  rw [Rv_add X hL]
  by_cases c : L.length < 400
  · rw [if_pos c, if_pos c]
    exact ⟨q, x, L ++ [y], fs, by rw [show okL (some [y]) L = true from decide_eq_true (by show L.length + 1 ≤ 400; omega)]; rfl, by rw [List.length_append, List.length_singleton]; omega, fun _ => ⟨⟨[y], rfl, rfl⟩, rfl⟩, fun _ _ => rfl⟩
  · rw [if_neg c, if_neg c]
    exact ⟨q, x, L, fs, by rw [show okL (some [y]) L = false from decide_eq_false (by show ¬ L.length + 1 ≤ 400; omega)]; rfl, hL, fun z => absurd (of_decide_eq_true z) (by show ¬ L.length + 1 ≤ 400; omega), fun _ _ => rfl⟩
end RSX
