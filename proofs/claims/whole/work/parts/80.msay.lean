/-- what is said: how many so far, and the first 420 -/
def sayD (d : Int × (Nat → Int)) (x : Int) : Int × (Nat → Int) := (d.1 + 1, if 420 ≤ d.1 then d.2 else fun m => if m = d.1.toNat then x else d.2 m)
def saysD (d : Int × (Nat → Int)) (l : List Int) : Int × (Nat → Int) := l.foldl sayD d
theorem saysD_app (d : Int × (Nat → Int)) (l k : List Int) : saysD d (l ++ k) = saysD (saysD d l) k := List.foldl_append
theorem saysD_1 : ∀ (l : List Int) (d : Int × (Nat → Int)), (saysD d l).1 = d.1 + l.length
  | [], d => by show d.1 = d.1 + ((0 : Nat) : Int); omega
  | x :: l, d => by
    show (saysD (sayD d x) l).1 = _
    rw [saysD_1 l, List.length_cons]
    show d.1 + 1 + _ = _
    omega
def said (s s' : mS) (l : List Int) : Prop := (s'.1 7, s'.2.2.1 8) = saysD (s.1 7, s.2.2.1 8) l
theorem said_0 {s s' : mS} (h1 : s'.1 7 = s.1 7) (h2 : s'.2.2.1 8 = s.2.2.1 8) : said s s' [] := Prod.ext h1 h2
theorem said.trans {s s1 s2 : mS} {l k : List Int} (h : said s s1 l) (h1 : said s1 s2 k) : said s s2 (l ++ k) := by
  unfold said at *
  rw [saysD_app, ← h, h1]
theorem said_1 {s s' : mS} {l : List Int} (h : said s s' l) : s'.1 7 = s.1 7 + l.length := by
  have := congrArg Prod.fst h
  rw [saysD_1] at this
  exact this
/-- what the reading of a text may change -/
def txF (s s' : mS) : Prop := (∀ k, k ≠ 7 → k ≠ 31 → k ≠ 38 → k ≠ 40 → s'.1 k = s.1 k) ∧ (∀ k, k ≠ 8 → k ≠ 32 → k ≠ 33 → k ≠ 34 → k ≠ 35 → k ≠ 41 → s'.2.2.1 k = s.2.2.1 k) ∧ s'.2.2.2 = s.2.2.2
/-- when nothing is to be said, nothing is counted -/
def tx0 (s s' : mS) : Prop := s.1 39 = 0 → s'.1 7 = s.1 7
def txG (s s' : mS) : Prop := txF s s' ∧ tx0 s s'
theorem txF_refl (s : mS) : txF s s := ⟨fun _ _ _ _ _ => rfl, fun _ _ _ _ _ _ _ => rfl, rfl⟩
theorem txF.trans {s s1 s2 : mS} (h : txF s s1) (h1 : txF s1 s2) : txF s s2 := ⟨fun k a b c d => (h1.1 k a b c d).trans (h.1 k a b c d), fun k a b c d e f => (h1.2.1 k a b c d e f).trans (h.2.1 k a b c d e f), h1.2.2.trans h.2.2⟩
theorem txF_isT {s s' : mS} {t : Int} {c : Int → Int} (h : txF s s') (T : isT s t c) : isT s' t c := isT_of T (h.2.1 15 (by decide) (by decide) (by decide) (by decide) (by decide) (by decide)) (h.2.1 14 (by decide) (by decide) (by decide) (by decide) (by decide) (by decide))
theorem txF_isV {s s' : mS} {v : Int → Int} (h : txF s s') (V : isV s v) : isV s' v := isV_of V (h.2.1 15 (by decide) (by decide) (by decide) (by decide) (by decide) (by decide)) (h.2.1 14 (by decide) (by decide) (by decide) (by decide) (by decide) (by decide)) (h.2.1 2 (by decide) (by decide) (by decide) (by decide) (by decide) (by decide)) (h.1 29 (by decide) (by decide) (by decide) (by decide)) (h.1 30 (by decide) (by decide) (by decide) (by decide)) (h.1 1 (by decide) (by decide) (by decide) (by decide))
/-- only what is said, and the amount -/
def syF (s s' : mS) : Prop := (∀ k, k ≠ 7 → s'.1 k = s.1 k) ∧ (∀ k, k ≠ 8 → s'.2.2.1 k = s.2.2.1 k) ∧ s'.2.2.2 = s.2.2.2
theorem syF_refl (s : mS) : syF s s := ⟨fun _ _ => rfl, fun _ _ => rfl, rfl⟩
theorem syF.trans {s s1 s2 : mS} (h : syF s s1) (h1 : syF s1 s2) : syF s s2 := ⟨fun k a => (h1.1 k a).trans (h.1 k a), fun k a => (h1.2.1 k a).trans (h.2.1 k a), h1.2.2.trans h.2.2⟩
theorem syF.tx {s s' : mS} (h : syF s s') : txF s s' := ⟨fun k a _ _ _ => h.1 k a, fun k a _ _ _ _ _ => h.2.1 k a, h.2.2⟩
theorem syF_L (s : mS) (v : Int) : syF s (mL s v) := ⟨fun _ _ => rfl, fun _ _ => rfl, rfl⟩
theorem Model_say_z {n : Nat} {h : ax_Hp} {s : mS} {x : Int} (h0 : 0 ≤ s.1 7) (h1 : s.1 7 < 2000000000) : ∃ s', ax_F (n + 1) 160 [ax_A (some 24), ax_I (Int32.ofInt x)] (mH h s) = some (.inl none, mH h s') ∧ syF s s' ∧ said s s' [x] ∧ s'.2.1 = s.2.1 := by
  rw [Model_say_F]
  unfold Model_say_b Model_say_jn20
  by_cases c : 420 ≤ s.1 7
  · refine ⟨mI s 7 (s.1 7 + 1), ?_, ⟨fun k hk => if_neg hk, fun _ _ => rfl, rfl⟩, ?_, rfl⟩
    · simp (disch := omega) only [↓mgi_7, mpf_7, ↓mgr_8, Option.bind_some, ↓zi_lit, zi_add, zi_le, ↓reduceIte, c]
      rfl
    · refine Prod.ext rfl ?_
      show _ = if 420 ≤ s.1 7 then s.2.2.1 8 else _
      rw [if_pos c]
      rfl
  · refine ⟨mI (mU s 8 (s.1 7) x) 7 (s.1 7 + 1), ?_, ⟨fun k hk => if_neg hk, fun k hk => mU_ne s 8 k _ _ hk, rfl⟩, ?_, rfl⟩
    · simp (disch := omega) only [↓mgi_7, mpf_7, ↓mgr_8, mst_8, Option.bind_some, ↓zi_lit, zi_add, mU_1, zi_le, ↓reduceIte, c]
      rfl
    · refine Prod.ext rfl ?_
      show (mU s 8 (s.1 7) x).2.2.1 8 = if 420 ≤ s.1 7 then s.2.2.1 8 else _
      rw [if_neg c, mU_at]
/-- the codes from p on, n of them -/
def spCh (v : Int → Int) (p : Int) : Nat → List Int
  | 0 => []
  | n + 1 => v p :: spCh v (p + 1) n
theorem spCh_len (v : Int → Int) : ∀ (n : Nat) (p : Int), (spCh v p n).length = n
  | 0, _ => rfl
  | n + 1, p => by
    show (spCh v (p + 1) n).length + 1 = _
    rw [spCh_len v n]
theorem syF_isV {s s' : mS} {v : Int → Int} (h : syF s s') (V : isV s v) : isV s' v := txF_isV h.tx V
theorem syF_isT {s s' : mS} {t : Int} {c : Int → Int} (h : syF s s') (T : isT s t c) : isT s' t c := txF_isT h.tx T
theorem Model_sayCharacters_l {m : Nat} {h : ax_Hp} {v : Int → Int} : ∀ (n : Nat) (s : mS) (p : Int) (fuel : Nat), isV s v → s.1 39 = 2 → 0 ≤ p → p + n < 900000 → 0 ≤ s.1 7 → s.1 7 + n < 1900000000 → n < fuel → ∃ s', Model_sayCharacters_lp2 (ax_F (m + 2)) fuel (some 24) (Int32.ofInt (p + n)) (Int32.ofInt p) (mH h s) = some (.inl none, mH h s') ∧ syF s s' ∧ said s s' (spCh v p n) ∧ s'.2.1 = s.2.1
  | 0, s, p, fuel, V, sp, p0, p1, d0, d1, hf => by
    obtain ⟨fuel, rfl⟩ : ∃ g, fuel = g + 1 := ⟨fuel - 1, by omega⟩
    have hstep : Model_sayCharacters_lp2 (ax_F (m + 2)) (fuel + 1) = Model_sayCharacters_bd2 (ax_F (m + 2)) (Model_sayCharacters_lp2 (ax_F (m + 2)) fuel) := rfl
    refine ⟨s, ?_, syF_refl s, said_0 rfl rfl, rfl⟩
    rw [hstep]
    unfold Model_sayCharacters_bd2
    simp (disch := omega) only [zi_le]
    rw [if_pos (by omega)]
    rfl
  | n + 1, s, p, fuel, V, sp, p0, p1, d0, d1, hf => by
    obtain ⟨fuel, rfl⟩ : ∃ g, fuel = g + 1 := ⟨fuel - 1, by omega⟩
    have hstep : Model_sayCharacters_lp2 (ax_F (m + 2)) (fuel + 1) = Model_sayCharacters_bd2 (ax_F (m + 2)) (Model_sayCharacters_lp2 (ax_F (m + 2)) fuel) := rfl
    obtain ⟨s1, e1, f1, g1, a1⟩ := Model_say_z (n := m + 1) (h := h) (s := s) (x := v p) d0 (by omega)
    have := said_1 g1
    obtain ⟨s2, e2, f2, g2, a2⟩ := Model_sayCharacters_l (m := m) (h := h) n s1 (p + 1) fuel (syF_isV f1 V) ((f1.1 39 (by decide)).trans sp) (by omega) (by omega) (by rw [this]; simp; omega) (by rw [this]; simp; omega) (by omega)
    refine ⟨s2, ?_, f1.trans f2, g1.trans g2, a2.trans a1⟩
    rw [hstep]
    unfold Model_sayCharacters_bd2
    simp (disch := omega) only [↓mgi_39, mS_on, Option.bind_some, ↓zi_lit, zi_add, zi_le, ↓reduceIte, eq_self, sp]
    rw [if_neg (by omega), pl_ci (Model_see_z V p0 (by omega)), mS_on, pl_cv e1]
    rw [show p + ((n + 1 : Nat) : Int) = p + 1 + (n : Int) by omega]
    exact e2
theorem Model_sayCharacters_z {m : Nat} {h : ax_Hp} {s : mS} {v : Int → Int} {p q : Int} (V : isV s v) (p0 : 0 ≤ p) (p1 : p ≤ q) (q1 : q < 800000) (d0 : 0 ≤ s.1 7) (d1 : s.1 7 < 1000000000) (hsp : 0 ≤ s.1 39 ∧ s.1 39 ≤ 2) : ∃ s', ax_F (m + 3) 159 [ax_A (some 24), ax_I (Int32.ofInt p), ax_I (Int32.ofInt q)] (mH h s) = some (.inl none, mH h s') ∧ syF s s' ∧ said s s' (if s.1 39 = 2 then spCh v p (q - p).toNat else []) ∧ s'.2.1 = s.2.1 := by
  rw [Model_sayCharacters_F]
  unfold Model_sayCharacters_b
  by_cases c : s.1 39 = 2
  · rw [if_pos c]
    obtain ⟨s1, e1, r⟩ := Model_sayCharacters_l (m := m) (h := h) (v := v) (q - p).toNat s p ax_fuel V c p0 (by omega) d0 (by omega) (by unfold ax_fuel; omega)
    refine ⟨s1, ?_, r⟩
    rw [show p + ((q - p).toNat : Int) = q by omega] at e1
    exact e1
  · rw [if_neg c]
    refine ⟨s, ?_, syF_refl s, said_0 rfl rfl, rfl⟩
    have hstep : Model_sayCharacters_lp2 (ax_F (m + 2)) ax_fuel = Model_sayCharacters_bd2 (ax_F (m + 2)) (Model_sayCharacters_lp2 (ax_F (m + 2)) 999999999999) := rfl
    rw [hstep]
    unfold Model_sayCharacters_bd2
    simp (disch := omega) only [↓mgi_39, mS_on, Option.bind_some, ↓zi_lit, zi_add, zi_le, zi_eq, ↓reduceIte, c]
    split <;> rfl
