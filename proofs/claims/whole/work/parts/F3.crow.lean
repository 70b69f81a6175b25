/-- a row's items: the list, and behind it what was there -/
def lsF (f0 : Nat → Int) (L : List Int) (j : Nat) : Int := if j < L.length then L.getD j 0 else f0 j
theorem lsF_app (f0 : Nat → Int) (L : List Int) (x : Int) : (fun m => if m = (L.length : Int).toNat then x else lsF f0 L m) = lsF f0 (L ++ [x]) := by
  funext m
  unfold lsF
  rw [List.length_append, List.length_singleton]
  by_cases c1 : m < L.length
  · rw [if_neg (by omega), if_pos c1, if_pos (by omega), List.getD_eq_getElem?_getD, List.getD_eq_getElem?_getD, List.getElem?_append_left c1]
  · by_cases c2 : m = L.length
    · rw [if_pos (by omega), if_pos (by omega), c2, List.getD_eq_getElem?_getD, List.getElem?_append_right (Nat.le_refl _), Nat.sub_self]
      rfl
    · rw [if_neg (by omega), if_neg c1, if_neg (by omega)]
def rH (g : ax_Hp) (dr di : Nat) (f0 : Nat → Int) (L : List Int) : ax_Hp := (g.1, g.2.1, fun q => if q = dr then some (rwO di (Int32.ofInt L.length)) else if q = di then some (.inr (1, arL 400 (lsF f0 L))) else g.2.2 q)
theorem rH_dr (g : ax_Hp) (dr di : Nat) (f0 : Nat → Int) (L : List Int) : (rH g dr di f0 L).2.2 dr = some (rwO di (Int32.ofInt L.length)) := if_pos rfl
theorem rH_di (g : ax_Hp) {dr di : Nat} (f0 : Nat → Int) (L : List Int) (hne : dr ≠ di) : (rH g dr di f0 L).2.2 di = some (.inr (1, arL 400 (lsF f0 L))) := by
  show (if di = dr then _ else if di = di then _ else _) = _
  rw [if_neg (Ne.symm hne), if_pos rfl]
theorem rH_o {g : ax_Hp} {dr di q : Nat} {f0 : Nat → Int} {L : List Int} (h1 : q ≠ dr) (h2 : q ≠ di) : (rH g dr di f0 L).2.2 q = g.2.2 q := by
  show (if q = dr then _ else if q = di then _ else _) = _
  rw [if_neg h1, if_neg h2]
theorem rH_on {g : ax_Hp} {dr di : Nat} {f0 : Nat → Int} {L : List Int} (k : ax_O) : ax_on (rH g dr di f0 L) (some dr) 2 k = k := pl_on (rH_dr g dr di f0 L)
theorem rH_set1 {g : ax_Hp} {dr di : Nat} {f0 : Nat → Int} {L : List Int} {x : Int} (hne : dr ≠ di) : ax_set (ax_set (rH g dr di f0 L) di (.inr (1, arL 400 (fun m => if m = (L.length : Int).toNat then x else lsF f0 L m)))) dr (rwO di (Int32.ofInt ((L.length : Int) + 1))) = rH g dr di f0 (L ++ [x]) := by
  refine Prod.ext rfl (Prod.ext rfl ?_)
  funext q
  by_cases c1 : q = dr
  · rw [c1, pl_set, rH_dr, List.length_append, List.length_singleton]
    rfl
  · rw [pl_ne c1]
    by_cases c2 : q = di
    · rw [c2, pl_set, rH_di _ _ _ hne, lsF_app]
    · rw [pl_ne c2, rH_o c1 c2, rH_o c1 c2]
/-- the class adds to a row -/
theorem Ro_addL {m dr di : Nat} {g : ax_Hp} {f0 : Nat → Int} {L : List Int} {x : Int} (hne : dr ≠ di) (hL : L.length ≤ 400) : ax_F (m + 1) 8 [ax_A (some dr), ax_I (Int32.ofInt x)] (rH g dr di f0 L) = some (.inl (some (ax_I (Int32.ofInt (if L.length < 400 then 1 else 0)))), rH g dr di f0 (if L.length < 400 then L ++ [x] else L)) := by
  have e1 := rH_dr g dr di f0 L
  have e2 := rH_di g f0 L hne
  rw [Row_add_F]
  unfold Row_add_b
  rw [pl_gi e1 (v := Int32.ofInt L.length) rfl, Option.bind_some, pl_gr e1 (v := some di) rfl, Option.bind_some, pl_len e2, arL_len, Option.bind_some]
  by_cases c1 : L.length < 400
  · have e3 : (ax_set (rH g dr di f0 L) di (.inr (1, arL 400 (fun m => if m = (L.length : Int).toNat then x else lsF f0 L m)))).2.2 dr = some (rwO di (Int32.ofInt L.length)) := (pl_ne hne).trans e1
    rw [if_pos (show Int32.ofInt L.length < Int32.ofNat 400 from by rw [show Int32.ofNat 400 = Int32.ofInt 400 from rfl, zi_lt (by omega) (by omega) (by omega) (by omega)]; omega), Option.bind_some, Option.bind_some, za_st e2 (by omega) (by omega) (by omega), Option.bind_some, pl_gi e3 (v := Int32.ofInt L.length) rfl, Option.bind_some, show (1 : Int32) = Int32.ofInt 1 from rfl, zi_add]
    have e4 : ax_pf (ax_set (rH g dr di f0 L) di (.inr (1, arL 400 (fun m => if m = (L.length : Int).toNat then x else lsF f0 L m)))) (some dr) 2 1 (ax_I (Int32.ofInt ((L.length : Int) + 1))) = some (rH g dr di f0 (L ++ [x])) := by
      rw [pl_pf e3 (Nat.le_of_ble_eq_true rfl)]
      exact congrArg some (rH_set1 hne)
    rw [e4, Option.bind_some, if_pos c1, if_pos c1]
    exact za_rz (v := 1) (Or.inr rfl)
  · rw [if_neg (show ¬ Int32.ofInt L.length < Int32.ofNat 400 from by rw [show Int32.ofNat 400 = Int32.ofInt 400 from rfl, zi_lt (by omega) (by omega) (by omega) (by omega)]; omega), if_neg c1, if_neg c1]
    exact za_rz (v := 0) (Or.inl rfl)
theorem Ro_sizeL {m dr di : Nat} {g : ax_Hp} {f0 : Nat → Int} {L : List Int} : ax_F (m + 1) 51 [ax_A (some dr)] (rH g dr di f0 L) = some (.inl (some (ax_I (Int32.ofInt L.length))), rH g dr di f0 L) := by
  rw [Row_size_F]
  unfold Row_size_b
  rw [pl_gi (rH_dr g dr di f0 L) (v := Int32.ofInt L.length) rfl]
  rfl
theorem Ro_atL {m dr di : Nat} {g : ax_Hp} {f0 : Nat → Int} {L : List Int} {i : Int} (hne : dr ≠ di) (hL : L.length ≤ 400) (i0 : 0 ≤ i) (i1 : i < L.length) : ax_F (m + 1) 45 [ax_A (some dr), ax_I (Int32.ofInt i)] (rH g dr di f0 L) = some (.inl (some (ax_I (Int32.ofInt (L.getD i.toNat 0)))), rH g dr di f0 L) := by
  rw [Row_at_F]
  unfold Row_at_b
  rw [if_neg (show ¬ Int32.ofInt i < 0 from zi_n0 (by omega) (by omega)), pl_gi (rH_dr g dr di f0 L) (v := Int32.ofInt L.length) rfl, Option.bind_some, if_neg (show ¬ Int32.ofInt L.length ≤ Int32.ofInt i from by rw [zi_le (by omega) (by omega) (by omega) (by omega)]; omega), pl_gr (rH_dr g dr di f0 L) (v := some di) rfl, Option.bind_some, za_ld (rH_di g f0 L hne) i0 (by omega) (by omega), Option.bind_some]
  unfold lsF
  rw [if_pos (by omega)]
  rfl
theorem verX_rH {g : ax_Hp} {dr di sc l : Nat} {c : Int → Int} {fe fn fu f0 : Nat → Int} {L : List Int} (V : verX g sc l c fe fn fu) (h1 : dr < 60) (h2 : di < 60) : verX (rH g dr di f0 L) sc l c fe fn fu := verX_kept V (Nat.le_refl _) (fun a a1 _ => rH_o (by omega) (by omega))
/-- a version's row -/
theorem Vx_row {h : ax_Hp} {sc l : Nat} {c : Int → Int} {fe fn fu : Nat → Int} (V : verX h sc l c fe fn fu) : ax_gr h (some sc) 3 0 = some (some (sc + 1)) ∧ (∀ k, ax_on h (some (sc + 1)) 2 k = k) ∧ (∀ m, ax_F (m + 1) 51 [ax_A (some (sc + 1))] h = some (.inl (some (ax_I (Int32.ofInt l))), h)) ∧ (∀ (m : Nat) (i : Int), -1000 ≤ i → i ≤ 1000 → ax_F (m + 1) 45 [ax_A (some (sc + 1)), ax_I (Int32.ofInt i)] h = some (.inl (some (ax_I (Int32.ofInt (atC l c i)))), h)) := by
  have A := verX_A V
  obtain ⟨v1, v2, -⟩ := V
  have e1 : ax_gr h (some sc) 3 0 = some (some (sc + 1)) := pl_gr v1 rfl
  refine ⟨e1, fun k => pl_on v2, fun m => ?_, fun m i i0 i1 => ?_⟩
  · rw [Row_size_F]
    unfold Row_size_b
    rw [pl_gi v2 (v := Int32.ofInt l) rfl]
    rfl
  · obtain ⟨tr, t1, t2, t3⟩ := Sa_row (m := m) A i0 i1
    rw [e1] at t1
    have : sc + 1 = tr := Option.some.inj (Option.some.inj t1)
    rw [this]
    exact t3
theorem spCh_s (v : Int → Int) (p : Int) (n : Nat) : spCh v p (n + 1) = v p :: spCh v (p + 1) n := rfl
theorem Sc_copyL {m dr di sc l : Nat} {g : ax_Hp} {c : Int → Int} {fe fn fu f0 : Nat → Int} (V : verX g sc l c fe fn fu) (h1 : dr < 60) (h2 : di < 60) (hne : dr ≠ di) : ∀ (k : Nat) (i : Int) (L : List Int) (fuel : Nat), 0 ≤ i → i + k = l → L.length + k ≤ 400 → k < fuel → Schema_copyTo_lp2 (ax_F (m + 1)) fuel (some sc) (some dr) (Int32.ofInt i) (rH g dr di f0 L) = some (.inl none, rH g dr di f0 (L ++ spCh c i k))
  | 0, i, L, fuel, i0, hi, hL, hf => by
    obtain ⟨fuel, rfl⟩ : ∃ g, fuel = g + 1 := ⟨fuel - 1, by omega⟩
    have hstep : Schema_copyTo_lp2 (ax_F (m + 1)) (fuel + 1) = Schema_copyTo_bd2 (ax_F (m + 1)) (Schema_copyTo_lp2 (ax_F (m + 1)) fuel) := rfl
    obtain ⟨r1, r2, r3, r4⟩ := Vx_row (verX_rH (f0 := f0) (L := L) V h1 h2)
    have l1 := V.2.2.2.2.2.2.2.2.1
    rw [hstep]
    unfold Schema_copyTo_bd2
    rw [r1, Option.bind_some, r2, pl_ci (r3 m), if_pos (show Int32.ofInt l ≤ Int32.ofInt i from by rw [zi_le (by omega) (by omega) (by omega) (by omega)]; omega), show spCh c i 0 = [] from rfl, List.append_nil]
    rfl
  | k + 1, i, L, fuel, i0, hi, hL, hf => by
    obtain ⟨fuel, rfl⟩ : ∃ g, fuel = g + 1 := ⟨fuel - 1, by omega⟩
    have hstep : Schema_copyTo_lp2 (ax_F (m + 1)) (fuel + 1) = Schema_copyTo_bd2 (ax_F (m + 1)) (Schema_copyTo_lp2 (ax_F (m + 1)) fuel) := rfl
    obtain ⟨r1, r2, r3, r4⟩ := Vx_row (verX_rH (f0 := f0) (L := L) V h1 h2)
    have l1 := V.2.2.2.2.2.2.2.2.1
    have ih := Sc_copyL (m := m) (f0 := f0) V h1 h2 hne k (i + 1) (L ++ [c i]) fuel (by omega) (by omega) (by rw [List.length_append, List.length_singleton]; omega) (by omega)
    rw [hstep]
    unfold Schema_copyTo_bd2
    rw [r1, Option.bind_some, r2, pl_ci (r3 m), if_neg (show ¬ Int32.ofInt l ≤ Int32.ofInt i from by rw [zi_le (by omega) (by omega) (by omega) (by omega)]; omega), r1, Option.bind_some, r2, pl_ci (r4 m i (by omega) (by omega)), rH_on, atC_in i0 (by omega), pl_ci (Ro_addL hne (by omega)), if_pos (show L.length < 400 by omega), show (1 : Int32) = Int32.ofInt 1 from rfl, zi_add, ih, spCh_s, List.append_assoc]
    rfl
/-- the walk of copyBareTo: k steps from p to e -/
def bw (c : Int → Int) (fe : Nat → Int) (mk : Int → Int) : Nat → Int → Int → Prop
  | 0, p, e => p = e
  | k + 1, p, e => (p < e ∧ c p ≠ 61 ∧ mk p = 0 ∧ bw c fe mk k (p + 1) e) ∨ (p < e ∧ c p = 61 ∧ p + 1 < fe (p + 1).toNat ∧ fe (p + 1).toNat ≤ e ∧ (∀ i, p ≤ i → i < fe (p + 1).toNat → mk i ≠ 0) ∧ bw c fe mk k (fe (p + 1).toNat) e)
/-- the characters that are not marked -/
def spBt (c mk : Int → Int) (p : Int) : Nat → List Int
  | 0 => []
  | n + 1 => if mk p = 0 then c p :: spBt c mk (p + 1) n else spBt c mk (p + 1) n
theorem spBt_skip {c mk : Int → Int} : ∀ (j n : Nat) (p : Int), (∀ i, p ≤ i → i < p + j → mk i ≠ 0) → spBt c mk p (j + n) = spBt c mk (p + j) n
  | 0, n, p, _ => by rw [Nat.zero_add, show p + ((0 : Nat) : Int) = p by omega]
  | j + 1, n, p, h => by
    rw [show j + 1 + n = (j + n) + 1 by omega]
    show (if mk p = 0 then _ else _) = _
    rw [if_neg (h p (by omega) (by omega)), spBt_skip j n (p + 1) (fun i a b => h i (by omega) (by omega)), show p + 1 + (j : Int) = p + ((j + 1 : Nat) : Int) by omega]
theorem spBt_len {c mk : Int → Int} : ∀ (n : Nat) (p : Int), (spBt c mk p n).length ≤ n
  | 0, _ => Nat.le_refl _
  | n + 1, p => by
    show (if mk p = 0 then c p :: spBt c mk (p + 1) n else spBt c mk (p + 1) n).length ≤ _
    have := spBt_len (c := c) (mk := mk) n (p + 1)
    split
    · rw [List.length_cons]; omega
    · omega
theorem bw_le {c : Int → Int} {fe : Nat → Int} {mk : Int → Int} : ∀ (k : Nat) (p e : Int), bw c fe mk k p e → p + k ≤ e
  | 0, p, e, h => by have h : p = e := h; omega
  | k + 1, p, e, h => by
    rcases h with ⟨h1, h2, h3, h4⟩ | ⟨h1, h2, h3, h4, h5, h6⟩
    · have := bw_le k _ _ h4; omega
    · have := bw_le k _ _ h6; omega
theorem bw_app {c : Int → Int} {fe : Nat → Int} {mk : Int → Int} : ∀ (k j : Nat) (p e e' : Int), bw c fe mk k p e → bw c fe mk j e e' → bw c fe mk (k + j) p e'
  | 0, j, p, e, e', h, h' => by
    have h : p = e := h
    rw [Nat.zero_add, h]; exact h'
  | k + 1, j, p, e, e', h, h' => by
    have l1 := bw_le _ _ _ h'
    rw [show k + 1 + j = (k + j) + 1 by omega]
    rcases h with ⟨h1, h2, h3, h4⟩ | ⟨h1, h2, h3, h4, h5, h6⟩
    · exact Or.inl ⟨by omega, h2, h3, bw_app k j _ _ _ h4 h'⟩
    · exact Or.inr ⟨by omega, h2, h3, by omega, h5, bw_app k j _ _ _ h6 h'⟩
theorem bw_run {c : Int → Int} {fe : Nat → Int} {mk : Int → Int} : ∀ (n : Nat) (p : Int), (∀ i, p ≤ i → i < p + n → c i ≠ 61 ∧ mk i = 0) → bw c fe mk n p (p + n)
  | 0, p, _ => by show p = p + ((0 : Nat) : Int); omega
  | n + 1, p, h => by
    have ih := bw_run (fe := fe) n (p + 1) (fun i a b => h i (by omega) (by omega))
    rw [show p + 1 + (n : Int) = p + ((n + 1 : Nat) : Int) by omega] at ih
    exact Or.inl ⟨by omega, (h p (by omega) (by omega)).1, (h p (by omega) (by omega)).2, ih⟩
theorem Sc_bareL {m dr di sc l : Nat} {g : ax_Hp} {c : Int → Int} {fe fn fu f0 : Nat → Int} {mk : Int → Int} (V : verX g sc l c fe fn fu) (h1 : dr < 60) (h2 : di < 60) (hne : dr ≠ di) : ∀ (k : Nat) (p : Int) (st : Nat) (L : List Int) (fuel : Nat), 0 ≤ p → bw c fe mk k p l → st + k ≤ l → L.length + (l - p) ≤ 400 → k < fuel → Schema_copyBareTo_lp4 (ax_F (m + 1)) fuel (some sc) (some dr) (Int32.ofInt p) (Int32.ofInt st) (rH g dr di f0 L) = some (.inl none, rH g dr di f0 (L ++ spBt c mk p (l - p).toNat))
  | 0, p, st, L, fuel, p0, hb, hs, hL, hf => by
    obtain ⟨fuel, rfl⟩ : ∃ g, fuel = g + 1 := ⟨fuel - 1, by omega⟩
    have hstep : Schema_copyBareTo_lp4 (ax_F (m + 1)) (fuel + 1) = Schema_copyBareTo_bd4 (ax_F (m + 1)) (Schema_copyBareTo_lp4 (ax_F (m + 1)) fuel) := rfl
    obtain ⟨r1, r2, r3, r4⟩ := Vx_row (verX_rH (f0 := f0) (L := L) V h1 h2)
    have l1 := V.2.2.2.2.2.2.2.2.1
    have hb : p = l := hb
    rw [hstep]
    unfold Schema_copyBareTo_bd4
    rw [r1, Option.bind_some, r2, pl_ci (r3 m), show (l - p : Int).toNat = 0 by omega, show spBt c mk p 0 = [] from rfl, List.append_nil]
    by_cases c1 : Int32.ofInt l ≤ Int32.ofInt st
    · rw [if_pos c1]; rfl
    · rw [if_neg c1, r1, Option.bind_some, r2, pl_ci (r3 m), if_pos (show Int32.ofInt l ≤ Int32.ofInt p from by rw [zi_le (by omega) (by omega) (by omega) (by omega)]; omega)]
      rfl
  | k + 1, p, st, L, fuel, p0, hb, hs, hL, hf => by
    obtain ⟨fuel, rfl⟩ : ∃ g, fuel = g + 1 := ⟨fuel - 1, by omega⟩
    have hstep : Schema_copyBareTo_lp4 (ax_F (m + 1)) (fuel + 1) = Schema_copyBareTo_bd4 (ax_F (m + 1)) (Schema_copyBareTo_lp4 (ax_F (m + 1)) fuel) := rfl
    have VL := verX_rH (f0 := f0) (L := L) V h1 h2
    obtain ⟨r1, r2, r3, r4⟩ := Vx_row VL
    have l1 := V.2.2.2.2.2.2.2.2.1
    have hp : p < l := by rcases hb with h | h <;> exact h.1
    rw [hstep]
    unfold Schema_copyBareTo_bd4
    rw [r1, Option.bind_some, r2, pl_ci (r3 m), if_neg (show ¬ Int32.ofInt l ≤ Int32.ofInt st from by rw [zi_le (by omega) (by omega) (by omega) (by omega)]; omega), r1, Option.bind_some, r2, pl_ci (r3 m), if_neg (show ¬ Int32.ofInt l ≤ Int32.ofInt p from by rw [zi_le (by omega) (by omega) (by omega) (by omega)]; omega), r1, Option.bind_some, r2, pl_ci (r4 m p (by omega) (by omega)), atC_in p0 hp]
    have cb := (V.2.2.2.2.2.2.2.2.2.2.1 p)
    rcases hb with ⟨b1, b2, b3, b4⟩ | ⟨b1, b2, b3, b4, b5, b6⟩
    · have ih := Sc_bareL (m := m) (f0 := f0) (mk := mk) V h1 h2 hne k (p + 1) (st + 1) (L ++ [c p]) fuel (by omega) b4 (by omega) (by rw [List.length_append, List.length_singleton]; omega) (by omega)
      rw [if_neg (show ¬ Int32.ofInt (c p) = 61 from by rw [show (61 : Int32) = Int32.ofInt 61 from rfl, zi_eq (by omega) (by omega) (by omega) (by omega)]; exact b2), r1, Option.bind_some, r2, pl_ci (r4 m p (by omega) (by omega)), atC_in p0 hp, rH_on, pl_ci (Ro_addL hne (by omega)), if_pos (show L.length < 400 by omega), show (1 : Int32) = Int32.ofInt 1 from rfl, zi_add, zi_add, show ((st : Nat) : Int) + 1 = ((st + 1 : Nat) : Int) by omega, ih, show (l - p : Int).toNat = (l - (p + 1) : Int).toNat + 1 by omega]
      show _ = some (Sum.inl none, rH g dr di f0 (L ++ (if mk p = 0 then c p :: spBt c mk (p + 1) (l - (p + 1) : Int).toNat else spBt c mk (p + 1) (l - (p + 1) : Int).toNat)))
      rw [if_pos b3, List.append_assoc]
      rfl
    · have ih := Sc_bareL (m := m) (f0 := f0) (mk := mk) V h1 h2 hne k (fe (p + 1).toNat) (st + 1) L fuel (by omega) b6 (by omega) (by omega) (by omega)
      have lb := bw_le _ _ _ b6
      rw [if_pos (show Int32.ofInt (c p) = 61 from by rw [b2]; rfl), Sa_on (verX_A VL), show (1 : Int32) = Int32.ofInt 1 from rfl, zi_add, pl_ci (Sa_end (verX_A VL) (by omega) (by omega)), zi_add, show ((st : Nat) : Int) + 1 = ((st + 1 : Nat) : Int) by omega, ih, show (l - p : Int).toNat = (fe (p + 1).toNat - p).toNat + (l - fe (p + 1).toNat : Int).toNat by omega, spBt_skip _ _ _ (fun i a b => b5 i a (by omega)), show p + ((fe (p + 1).toNat - p).toNat : Int) = fe (p + 1).toNat by omega]
