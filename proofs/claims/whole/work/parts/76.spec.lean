/-- what a text says: c i is the code at place i, 0 behind the end; an answer e ≥ 0 is the place behind, -1 - p says that p is the place of the fault -/
abbrev isSm (x : Int) : Prop := 97 ≤ x ∧ x ≤ 122
abbrev isDg (x : Int) : Prop := 48 ≤ x ∧ x ≤ 57
def spSy (c : Int → Int) (p : Int) : Nat → Nat → Nat
  | 0, k => k
  | f + 1, k => if isSm (c (p + k)) ∧ ∀ j : Nat, j < k → c (p + j) ≠ c (p + k) then spSy c p f (k + 1) else k
def spIx (c : Int → Int) (p x : Int) : Nat → Int
  | 0 => -1
  | k + 1 => if c (p + k) = x then k else spIx c p x k
def spE (c : Int → Int) (p : Int) : Int :=
  if c (p + 1) = 40 then
    if spSy c (p + 2) 8 0 = 0 then -1 - (p + 2)
    else if c (p + 2 + spSy c (p + 2) 8 0) = 61 then
      if spIx c (p + 2) (c (p + 2 + spSy c (p + 2) 8 0 + 1)) (spSy c (p + 2) 8 0) < 0 then -1 - (p + 2 + spSy c (p + 2) 8 0 + 1)
      else if c (p + 2 + spSy c (p + 2) 8 0 + 2) = 41 then p + 2 + spSy c (p + 2) 8 0 + 3 else -1 - (p + 2 + spSy c (p + 2) 8 0 + 2)
    else if c (p + 2 + spSy c (p + 2) 8 0) = 41 then p + 2 + spSy c (p + 2) 8 0 + 1 else -1 - (p + 2 + spSy c (p + 2) 8 0)
  else -1 - (p + 1)
def spNm (v : Int → Int) (lim : Int) : Nat → Int → Int → Int × Int
  | 0, q, a => (q, a)
  | f + 1, q, a => if isDg (v q) then (if 10 * a - (v q - 48) < lim then (-1 - q, 0) else spNm v lim f (q + 1) (10 * a - (v q - 48))) else (q, a)
def spLim (wide less : Bool) : Int := (if wide then -9223372036854775808 else -2147483648) + (if less then 0 else 1)
def spNum (v : Int → Int) (wide : Bool) (q : Int) : Int × Int :=
  if v q = 45 then
    if ¬ isDg (v (q + 1)) ∨ v (q + 1) = 48 then (-1 - (q + 1), 0) else spNm v (spLim wide true) 20 (q + 1) 0
  else if ¬ isDg (v q) then (-1 - q, 0)
  else if v q = 48 then (q + 1, 0)
  else ((spNm v (spLim wide false) 20 q 0).1, -(spNm v (spLim wide false) 20 q 0).2)
def spStr (v : Int → Int) : Nat → Int → Int
  | 0, q => if v q = 34 then q + 1 else -1 - q
  | f + 1, q => if v q = 34 then q + 1 else if v q = 0 then -1 - q else spStr v f (q + 1)
def spLf (c v : Int → Int) (t q : Int) : Int :=
  if c t = 78 then (if v q = 78 then q + 1 else -1 - q)
  else if c t = 66 then (if v q = 84 ∨ v q = 70 then q + 1 else -1 - q)
  else if c t = 69 then (if spIx c (t + 2) (v q) (spSy c (t + 2) 8 0) < 0 then -1 - q else q + 1)
  else if c t = 83 then (if v q = 34 then spStr v 12 (q + 1) else -1 - q)
  else (spNum v (decide (c t = 76)) q).1
def spEl (v : Int → Int) (f : Int → Int) : Nat → Int → Int
  | 0, q => -1 - q
  | k + 1, q => if f q < 0 then f q else if v (f q) = 93 then f q + 1 else if k = 0 ∨ v (f q) ≠ 44 then -1 - f q else spEl v f k (f q + 1)
def spFs (v : Int → Int) (f : Int → Int → Int) : List Int → Int → Int
  | [], q => -1 - q
  | [x], q => if f (x + 2) q < 0 then f (x + 2) q else if v (f (x + 2) q) = 125 then f (x + 2) q + 1 else -1 - f (x + 2) q
  | x :: y :: l, q => if f (x + 2) q < 0 then f (x + 2) q else if v (f (x + 2) q) = 44 then spFs v f (y :: l) (f (x + 2) q + 1) else -1 - f (x + 2) q
/-- the branches from b on; the fields from f on -/
def spBl (c ty : Int → Int) : Nat → Int → List Int
  | 0, _ => []
  | k + 1, b => b :: if c (ty b) = 44 then spBl c ty k (ty b + 1) else []
/-- behind a field's type and default -/
def spFe (c ty : Int → Int) (lt : Int → Int → Int) (f : Int) : Int := if c (ty (f + 2)) = 61 then lt (f + 2) (ty (f + 2) + 1) else ty (f + 2)
def spFl (c ty : Int → Int) (lt : Int → Int → Int) : Nat → Int → List Int
  | 0, _ => []
  | k + 1, f => f :: if c (spFe c ty lt f) = 44 then spFl c ty lt k (spFe c ty lt f + 1) else []
def spBr (c ty : Int → Int) : Nat → List Int → Int → Int
  | 0, _, q => -1 - q
  | k + 1, seen, q => if c q = 85 ∨ c q ∈ seen then -1 - q else if ty q < 0 then ty q
    else if seen ≠ [] ∧ c (ty q) = 41 then ty q + 1 else if k = 0 ∨ c (ty q) ≠ 44 then -1 - ty q else spBr c ty k (c q :: seen) (ty q + 1)
def spFd (c ty : Int → Int) (lt : Int → Int → Int) : Nat → List Int → Int → Int
  | 0, _, q => -1 - q
  | k + 1, seen, q => if ¬ isSm (c q) ∨ c q ∈ seen then -1 - q else if c (q + 1) ≠ 58 then -1 - (q + 1) else if ty (q + 2) < 0 then ty (q + 2)
    else if spFe c ty lt q < 0 then spFe c ty lt q
    else if c (spFe c ty lt q) = 41 then spFe c ty lt q + 1 else if k = 0 ∨ c (spFe c ty lt q) ≠ 44 then -1 - spFe c ty lt q else spFd c ty lt k (c q :: seen) (spFe c ty lt q + 1)
abbrev isPl (x : Int) : Prop := x = 78 ∨ x = 66 ∨ x = 73 ∨ x = 76 ∨ x = 83
def spT0 (c : Int → Int) (p : Int) : Int := if isPl (c p) then p + 1 else if c p = 69 then spE c p else -1 - p
def spT1 (c ty : Int → Int) (lt : Int → Int → Int) (p : Int) : Int :=
  if isPl (c p) then p + 1 else if c p = 69 then spE c p
  else if c p = 65 then ty (p + 1)
  else if c p = 85 then (if c (p + 1) = 40 then spBr c ty 4 [] (p + 2) else -1 - (p + 1))
  else if c p = 82 then (if c (p + 1) = 40 then spFd c ty lt 6 [] (p + 2) else -1 - (p + 1))
  else -1 - p
def spP1 (c ty : Int → Int) (lt : Int → Int → Int) (t : Int) : List Int := if c t = 85 then spBl c ty 4 (t + 2) else if c t = 82 then spFl c ty lt 6 (t + 2) else []
def spV1 (c v : Int → Int) (val : Bool) (pt : Int → List Int) (f : Int → Int → Int) (t q : Int) : Int :=
  if c t = 65 then (if v q = 91 then (if v (q + 1) = 93 then q + 2 else spEl v (f (t + 1)) (if val then 20 else 3) (q + 1)) else -1 - q)
  else if c t = 85 then
    (if val then (if 0 ≤ v q - 48 ∧ v q - 48 < (pt t).length then (if v (q + 1) = 58 then f ((pt t).getD (v q - 48).toNat 0) (q + 2) else -1 - (q + 1)) else -1 - q)
    else f (t + 2) q)
  else if c t = 82 then (if v q = 123 then spFs v f (pt t) (q + 1) else -1 - q)
  else spLf c v t q
/-- level D: a type that holds at most D others, one in the other: where it ends; its parts; where a literal of it ends -/
def spL (c : Int → Int) : Nat → (Int → Int) × (Int → List Int) × (Int → Int → Int)
  | 0 => (spT0 c, fun _ => [], spLf c c)
  | D + 1 => (spT1 c (spL c D).1 (spL c D).2.2, spP1 c (spL c D).1 (spL c D).2.2, spV1 c c false (spP1 c (spL c D).1 (spL c D).2.2) (spL c D).2.2)
def spTy (c : Int → Int) (D : Nat) : Int → Int := (spL c D).1
def spPt (c : Int → Int) (D : Nat) : Int → List Int := (spL c D).2.1
def spVal (c v : Int → Int) (val : Bool) : Nat → Int → Int → Int
  | 0 => spLf c v
  | D + 1 => spV1 c v val (spPt c (D + 1)) (spVal c v val D)
theorem spLt_eq (c : Int → Int) : ∀ D, (spL c D).2.2 = spVal c c false D
  | 0 => rfl
  | D + 1 => by
    show spV1 c c false (spPt c (D + 1)) (spL c D).2.2 = _
    rw [spLt_eq c D]
    rfl
theorem spTy_0 (c : Int → Int) : spTy c 0 = spT0 c := rfl
theorem spTy_s (c : Int → Int) (D : Nat) : spTy c (D + 1) = spT1 c (spTy c D) (spVal c c false D) := by
  show spT1 c (spL c D).1 (spL c D).2.2 = _
  rw [spLt_eq]
  rfl
theorem spPt_s (c : Int → Int) (D : Nat) : spPt c (D + 1) = spP1 c (spTy c D) (spVal c c false D) := by
  show spP1 c (spL c D).1 (spL c D).2.2 = _
  rw [spLt_eq]
  rfl
theorem spIx_s (c : Int → Int) (p x : Int) (k : Nat) : spIx c p x (k + 1) = if c (p + k) = x then (k : Int) else spIx c p x k := rfl
theorem spStr_0 (v : Int → Int) (q : Int) : spStr v 0 q = if v q = 34 then q + 1 else -1 - q := rfl
theorem spStr_s (v : Int → Int) (f : Nat) (q : Int) : spStr v (f + 1) q = if v q = 34 then q + 1 else if v q = 0 then -1 - q else spStr v f (q + 1) := rfl
theorem spNm_s (v : Int → Int) (lim : Int) (f : Nat) (q a : Int) : spNm v lim (f + 1) q a = if isDg (v q) then (if 10 * a - (v q - 48) < lim then (-1 - q, 0) else spNm v lim f (q + 1) (10 * a - (v q - 48))) else (q, a) := rfl
theorem spSy_s (c : Int → Int) (p : Int) (f k : Nat) : spSy c p (f + 1) k = if isSm (c (p + k)) ∧ ∀ j : Nat, j < k → c (p + j) ≠ c (p + k) then spSy c p f (k + 1) else k := rfl
theorem spEl_s (v f : Int → Int) (k : Nat) (q : Int) : spEl v f (k + 1) q = if f q < 0 then f q else if v (f q) = 93 then f q + 1 else if k = 0 ∨ v (f q) ≠ 44 then -1 - f q else spEl v f k (f q + 1) := rfl
