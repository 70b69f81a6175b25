/-- ends are as they were, and for values the marks of U too -/
def enE (vl : Bool) (s' s : cS) : Prop := s'.2.1 = s.2.1 ∧ (vl = true → s'.2.2.2.1 = s.2.2.2.1)
theorem enE.trans {vl : Bool} {a b c : cS} (h : enE vl a b) (h1 : enE vl b c) : enE vl a c := ⟨h.1.trans h1.1, fun z => (h.2 z).trans (h1.2 z)⟩
theorem enE_r {vl : Bool} {a b : cS} (h : a.2.1 = b.2.1) (h1 : a.2.2.2.1 = b.2.2.2.1) : enE vl a b := ⟨h, fun _ => h1⟩
def vPost (K : Nat → Nat) (vl : Bool) (s s' : cS) (e : Int) (L U : List Int) : Prop := vEnd s' e ∧ enE vl s' s ∧ s'.2.2.1 = s.2.2.1 ∧ (0 ≤ e → bsE K s s' L ∧ unE s s' U ∧ (L.length : Int) ≤ e - s.1)
/-- a part of level D is read as the text says -/
def rdP (g : ax_Hp) (K : Nat → Nat) (vr : Nat) (c v : Int → Int) (val : Bool) (n D : Nat) : Prop := ∀ (s : cS) (t dep : Int), 0 ≤ dep → dep + D ≤ 6 → 0 ≤ t → 0 ≤ spTy c D t → MkN s.2.2.1 c D t → 0 ≤ s.1 → s.1 ≤ K 7 → bRm K s (161 - s.1) → ∃ s', ax_F n 43 [ax_A (some vr), ax_I (Int32.ofInt t), ax_I (Int32.ofInt dep)] (cH g K s) = some (.inl (some (ax_I (Int32.ofInt (if 0 ≤ spVal c v val D t s.1 then 1 else 0)))), cH g K s') ∧ vPost K val s s' (spVal c v val D t s.1) (spO 1 c v val D t s.1) (spU c v val D t s.1)
theorem S_lt {g : ax_Hp} {K : Nat → Nat} {sc tr ti l : Nat} {c : Int → Int} (S : csX g K sc tr ti l c) : l ≤ 160 ∧ (∀ p : Int, (l : Int) ≤ p → c p = 0) ∧ (∀ p : Int, 0 ≤ c p ∧ c p < 128) ∧ ∀ p : Int, c p ≠ 0 → p < l := by
  obtain ⟨ci, fc, s1, s2, s3, s4, s5, s6⟩ := S.2.2.2.2.2.2.2
  exact ⟨S.2.2.2.2.2.1, s5, s6, fun p z => Classical.byContradiction fun y => z (s5 _ (by omega))⟩
theorem V_lt {g : ax_Hp} {K : Nat → Nat} {v : Int → Int} (V : cvX g K v) : (∀ p : Int, (K 7 : Int) ≤ p → v p = 0) ∧ (∀ p : Int, 0 ≤ v p ∧ v p < 128) ∧ ∀ p : Int, v p ≠ 0 → p < K 7 := by
  obtain ⟨ci, fv, x1, x2, x3, x4, x5, x6, x7⟩ := V
  exact ⟨x6, x7, fun p z => Classical.byContradiction fun y => z (x6 _ (by omega))⟩
theorem Sc_el {n : Nat} {sc : Nat} {t : Int} {H : ax_Hp} : ax_F (n + 1) 57 [ax_A (some sc), ax_I (Int32.ofInt t)] H = some (.inl (some (ax_I (Int32.ofInt (t + 1)))), H) := by
  rw [Schema_element_F]
  unfold Schema_element_b
  rw [show (1 : Int32) = Int32.ofInt 1 from rfl, zi_add]
  rfl
theorem Sc_fst {n : Nat} {sc : Nat} {t : Int} {H : ax_Hp} : ax_F (n + 1) 60 [ax_A (some sc), ax_I (Int32.ofInt t)] H = some (.inl (some (ax_I (Int32.ofInt (t + 2)))), H) := by
  rw [Schema_firstPart_F]
  unfold Schema_firstPart_b
  rw [show (2 : Int32) = Int32.ofInt 2 from rfl, zi_add]
  rfl
theorem Sc_fty {n : Nat} {sc : Nat} {t : Int} {H : ax_Hp} : ax_F (n + 1) 65 [ax_A (some sc), ax_I (Int32.ofInt t)] H = some (.inl (some (ax_I (Int32.ofInt (t + 2)))), H) := by
  rw [Schema_fieldType_F]
  unfold Schema_fieldType_b
  rw [show (2 : Int32) = Int32.ofInt 2 from rfl, zi_add]
  rfl
theorem Vr_dA {n : Nat} {g : ax_Hp} {K : Nat → Nat} {vr sc tr ti l : Nat} {c : Int → Int} {val : Bool} {s : cS} {t dep b : Int} {H : ax_Hp} (X : vrX g K vr sc val) (S : csX g K sc tr ti l c) (t0 : 0 ≤ t) (d0 : 0 ≤ dep) (d1 : dep ≤ 6) (hb : b = 0 ∨ b = 1) (hk : c t = 65) (e : ax_F (n + 2) 56 [ax_A (some vr), ax_I (Int32.ofInt t), ax_I (Int32.ofInt dep)] (cH g K s) = some (.inl (some (ax_I (Int32.ofInt b))), H)) : ax_F (n + 3) 43 [ax_A (some vr), ax_I (Int32.ofInt t), ax_I (Int32.ofInt dep)] (cH g K s) = some (.inl (some (ax_I (Int32.ofInt b))), H) := by
  obtain ⟨l1, l2, l3, l4⟩ := S_lt S
  have tl := l4 t (by omega)
  rw [ValueReader_readPart_F]
  unfold ValueReader_readPart_b
  rw [if_pos (show Int32.ofInt dep ≤ 6 from by rw [show (6 : Int32) = Int32.ofInt 6 from rfl, zi_le (by omega) (by omega) (by omega) (by omega)]; exact d1), vr_gr1 X, Option.bind_some, sc_on S, pl_ci (Sc_kind S t0 (by omega)), if_pos tl]
  have ek : (Int32.ofInt (c t)).toInt = 65 := by rw [zi_toInt (by omega) (by omega)]; exact hk
  simp only [ek, Int.reduceEq, ↓reduceIte]
  rw [vr_on X, pl_ci e]
  exact za_rz hb
theorem Vr_dB {n : Nat} {g : ax_Hp} {K : Nat → Nat} {vr sc tr ti l : Nat} {c : Int → Int} {val : Bool} {s : cS} {t dep b : Int} {H : ax_Hp} (X : vrX g K vr sc val) (S : csX g K sc tr ti l c) (t0 : 0 ≤ t) (d0 : 0 ≤ dep) (d1 : dep ≤ 6) (hb : b = 0 ∨ b = 1) (hk : c t = 66) (e : ax_F (n + 2) 46 [ax_A (some vr)] (cH g K s) = some (.inl (some (ax_I (Int32.ofInt b))), H)) : ax_F (n + 3) 43 [ax_A (some vr), ax_I (Int32.ofInt t), ax_I (Int32.ofInt dep)] (cH g K s) = some (.inl (some (ax_I (Int32.ofInt b))), H) := by
  obtain ⟨l1, l2, l3, l4⟩ := S_lt S
  have tl := l4 t (by omega)
  rw [ValueReader_readPart_F]
  unfold ValueReader_readPart_b
  rw [if_pos (show Int32.ofInt dep ≤ 6 from by rw [show (6 : Int32) = Int32.ofInt 6 from rfl, zi_le (by omega) (by omega) (by omega) (by omega)]; exact d1), vr_gr1 X, Option.bind_some, sc_on S, pl_ci (Sc_kind S t0 (by omega)), if_pos tl]
  have ek : (Int32.ofInt (c t)).toInt = 66 := by rw [zi_toInt (by omega) (by omega)]; exact hk
  simp only [ek, Int.reduceEq, ↓reduceIte]
  rw [vr_on X, pl_ci e]
  exact za_rz hb
theorem Vr_dE {n : Nat} {g : ax_Hp} {K : Nat → Nat} {vr sc tr ti l : Nat} {c : Int → Int} {val : Bool} {s : cS} {t dep b : Int} {H : ax_Hp} (X : vrX g K vr sc val) (S : csX g K sc tr ti l c) (t0 : 0 ≤ t) (d0 : 0 ≤ dep) (d1 : dep ≤ 6) (hb : b = 0 ∨ b = 1) (hk : c t = 69) (e : ax_F (n + 2) 54 [ax_A (some vr), ax_I (Int32.ofInt t)] (cH g K s) = some (.inl (some (ax_I (Int32.ofInt b))), H)) : ax_F (n + 3) 43 [ax_A (some vr), ax_I (Int32.ofInt t), ax_I (Int32.ofInt dep)] (cH g K s) = some (.inl (some (ax_I (Int32.ofInt b))), H) := by
  obtain ⟨l1, l2, l3, l4⟩ := S_lt S
  have tl := l4 t (by omega)
  rw [ValueReader_readPart_F]
  unfold ValueReader_readPart_b
  rw [if_pos (show Int32.ofInt dep ≤ 6 from by rw [show (6 : Int32) = Int32.ofInt 6 from rfl, zi_le (by omega) (by omega) (by omega) (by omega)]; exact d1), vr_gr1 X, Option.bind_some, sc_on S, pl_ci (Sc_kind S t0 (by omega)), if_pos tl]
  have ek : (Int32.ofInt (c t)).toInt = 69 := by rw [zi_toInt (by omega) (by omega)]; exact hk
  simp only [ek, Int.reduceEq, ↓reduceIte]
  rw [vr_on X, pl_ci e]
  exact za_rz hb
theorem Vr_dI {n : Nat} {g : ax_Hp} {K : Nat → Nat} {vr sc tr ti l : Nat} {c : Int → Int} {val : Bool} {s : cS} {t dep b : Int} {H : ax_Hp} (X : vrX g K vr sc val) (S : csX g K sc tr ti l c) (t0 : 0 ≤ t) (d0 : 0 ≤ dep) (d1 : dep ≤ 6) (hb : b = 0 ∨ b = 1) (hk : c t = 73) (e : ax_F (n + 2) 47 [ax_A (some vr), ax_L 2147483647] (cH g K s) = some (.inl (some (ax_I (Int32.ofInt b))), H)) : ax_F (n + 3) 43 [ax_A (some vr), ax_I (Int32.ofInt t), ax_I (Int32.ofInt dep)] (cH g K s) = some (.inl (some (ax_I (Int32.ofInt b))), H) := by
  obtain ⟨l1, l2, l3, l4⟩ := S_lt S
  have tl := l4 t (by omega)
  rw [ValueReader_readPart_F]
  unfold ValueReader_readPart_b
  rw [if_pos (show Int32.ofInt dep ≤ 6 from by rw [show (6 : Int32) = Int32.ofInt 6 from rfl, zi_le (by omega) (by omega) (by omega) (by omega)]; exact d1), vr_gr1 X, Option.bind_some, sc_on S, pl_ci (Sc_kind S t0 (by omega)), if_pos tl]
  have ek : (Int32.ofInt (c t)).toInt = 73 := by rw [zi_toInt (by omega) (by omega)]; exact hk
  simp only [ek, Int.reduceEq, ↓reduceIte]
  rw [vr_on X, pl_ci e]
  exact za_rz hb
theorem Vr_dL {n : Nat} {g : ax_Hp} {K : Nat → Nat} {vr sc tr ti l : Nat} {c : Int → Int} {val : Bool} {s : cS} {t dep b : Int} {H : ax_Hp} (X : vrX g K vr sc val) (S : csX g K sc tr ti l c) (t0 : 0 ≤ t) (d0 : 0 ≤ dep) (d1 : dep ≤ 6) (hb : b = 0 ∨ b = 1) (hk : c t = 76) (e : ax_F (n + 2) 47 [ax_A (some vr), ax_L 9223372036854775807] (cH g K s) = some (.inl (some (ax_I (Int32.ofInt b))), H)) : ax_F (n + 3) 43 [ax_A (some vr), ax_I (Int32.ofInt t), ax_I (Int32.ofInt dep)] (cH g K s) = some (.inl (some (ax_I (Int32.ofInt b))), H) := by
  obtain ⟨l1, l2, l3, l4⟩ := S_lt S
  have tl := l4 t (by omega)
  rw [ValueReader_readPart_F]
  unfold ValueReader_readPart_b
  rw [if_pos (show Int32.ofInt dep ≤ 6 from by rw [show (6 : Int32) = Int32.ofInt 6 from rfl, zi_le (by omega) (by omega) (by omega) (by omega)]; exact d1), vr_gr1 X, Option.bind_some, sc_on S, pl_ci (Sc_kind S t0 (by omega)), if_pos tl]
  have ek : (Int32.ofInt (c t)).toInt = 76 := by rw [zi_toInt (by omega) (by omega)]; exact hk
  simp only [ek, Int.reduceEq, ↓reduceIte]
  rw [vr_on X, pl_ci e]
  exact za_rz hb
theorem Vr_dR {n : Nat} {g : ax_Hp} {K : Nat → Nat} {vr sc tr ti l : Nat} {c : Int → Int} {val : Bool} {s : cS} {t dep b : Int} {H : ax_Hp} (X : vrX g K vr sc val) (S : csX g K sc tr ti l c) (t0 : 0 ≤ t) (d0 : 0 ≤ dep) (d1 : dep ≤ 6) (hb : b = 0 ∨ b = 1) (hk : c t = 82) (e : ax_F (n + 2) 64 [ax_A (some vr), ax_I (Int32.ofInt t), ax_I (Int32.ofInt dep)] (cH g K s) = some (.inl (some (ax_I (Int32.ofInt b))), H)) : ax_F (n + 3) 43 [ax_A (some vr), ax_I (Int32.ofInt t), ax_I (Int32.ofInt dep)] (cH g K s) = some (.inl (some (ax_I (Int32.ofInt b))), H) := by
  obtain ⟨l1, l2, l3, l4⟩ := S_lt S
  have tl := l4 t (by omega)
  rw [ValueReader_readPart_F]
  unfold ValueReader_readPart_b
  rw [if_pos (show Int32.ofInt dep ≤ 6 from by rw [show (6 : Int32) = Int32.ofInt 6 from rfl, zi_le (by omega) (by omega) (by omega) (by omega)]; exact d1), vr_gr1 X, Option.bind_some, sc_on S, pl_ci (Sc_kind S t0 (by omega)), if_pos tl]
  have ek : (Int32.ofInt (c t)).toInt = 82 := by rw [zi_toInt (by omega) (by omega)]; exact hk
  simp only [ek, Int.reduceEq, ↓reduceIte]
  rw [vr_on X, pl_ci e]
  exact za_rz hb
theorem Vr_dS {n : Nat} {g : ax_Hp} {K : Nat → Nat} {vr sc tr ti l : Nat} {c : Int → Int} {val : Bool} {s : cS} {t dep b : Int} {H : ax_Hp} (X : vrX g K vr sc val) (S : csX g K sc tr ti l c) (t0 : 0 ≤ t) (d0 : 0 ≤ dep) (d1 : dep ≤ 6) (hb : b = 0 ∨ b = 1) (hk : c t = 83) (e : ax_F (n + 2) 50 [ax_A (some vr)] (cH g K s) = some (.inl (some (ax_I (Int32.ofInt b))), H)) : ax_F (n + 3) 43 [ax_A (some vr), ax_I (Int32.ofInt t), ax_I (Int32.ofInt dep)] (cH g K s) = some (.inl (some (ax_I (Int32.ofInt b))), H) := by
  obtain ⟨l1, l2, l3, l4⟩ := S_lt S
  have tl := l4 t (by omega)
  rw [ValueReader_readPart_F]
  unfold ValueReader_readPart_b
  rw [if_pos (show Int32.ofInt dep ≤ 6 from by rw [show (6 : Int32) = Int32.ofInt 6 from rfl, zi_le (by omega) (by omega) (by omega) (by omega)]; exact d1), vr_gr1 X, Option.bind_some, sc_on S, pl_ci (Sc_kind S t0 (by omega)), if_pos tl]
  have ek : (Int32.ofInt (c t)).toInt = 83 := by rw [zi_toInt (by omega) (by omega)]; exact hk
  simp only [ek, Int.reduceEq, ↓reduceIte]
  rw [vr_on X, pl_ci e]
  exact za_rz hb
theorem Vr_dN {n : Nat} {g : ax_Hp} {K : Nat → Nat} {vr sc tr ti l : Nat} {c : Int → Int} {val : Bool} {s : cS} {t dep b : Int} {H : ax_Hp} (X : vrX g K vr sc val) (S : csX g K sc tr ti l c) (t0 : 0 ≤ t) (d0 : 0 ≤ dep) (d1 : dep ≤ 6) (hb : b = 0 ∨ b = 1) (hk : c t = 78) (e : ax_F (n + 2) 30 [ax_A (some (K 0)), ax_I 78] (cH g K s) = some (.inl (some (ax_I (Int32.ofInt b))), H)) : ax_F (n + 3) 43 [ax_A (some vr), ax_I (Int32.ofInt t), ax_I (Int32.ofInt dep)] (cH g K s) = some (.inl (some (ax_I (Int32.ofInt b))), H) := by
  obtain ⟨l1, l2, l3, l4⟩ := S_lt S
  have tl := l4 t (by omega)
  rw [ValueReader_readPart_F]
  unfold ValueReader_readPart_b
  rw [if_pos (show Int32.ofInt dep ≤ 6 from by rw [show (6 : Int32) = Int32.ofInt 6 from rfl, zi_le (by omega) (by omega) (by omega) (by omega)]; exact d1), vr_gr1 X, Option.bind_some, sc_on S, pl_ci (Sc_kind S t0 (by omega)), if_pos tl]
  have ek : (Int32.ofInt (c t)).toInt = 78 := by rw [zi_toInt (by omega) (by omega)]; exact hk
  simp only [ek, Int.reduceEq, ↓reduceIte]
  rw [vr_gr0 X, Option.bind_some, cu_on, pl_ci e]
  exact za_rz hb
theorem Vr_dU {n : Nat} {g : ax_Hp} {K : Nat → Nat} {vr sc tr ti l : Nat} {c : Int → Int} {val : Bool} {s : cS} {t dep b : Int} {H : ax_Hp} (X : vrX g K vr sc val) (S : csX g K sc tr ti l c) (t0 : 0 ≤ t) (d0 : 0 ≤ dep) (d1 : dep ≤ 6) (hb : b = 0 ∨ b = 1) (hk : c t = 85) (e : ax_F (n + 2) (if val then 61 else 58) [ax_A (some vr), ax_I (Int32.ofInt t), ax_I (Int32.ofInt dep)] (cH g K s) = some (.inl (some (ax_I (Int32.ofInt b))), H)) : ax_F (n + 3) 43 [ax_A (some vr), ax_I (Int32.ofInt t), ax_I (Int32.ofInt dep)] (cH g K s) = some (.inl (some (ax_I (Int32.ofInt b))), H) := by
  obtain ⟨l1, l2, l3, l4⟩ := S_lt S
  have tl := l4 t (by omega)
  rw [ValueReader_readPart_F]
  unfold ValueReader_readPart_b
  rw [if_pos (show Int32.ofInt dep ≤ 6 from by rw [show (6 : Int32) = Int32.ofInt 6 from rfl, zi_le (by omega) (by omega) (by omega) (by omega)]; exact d1), vr_gr1 X, Option.bind_some, sc_on S, pl_ci (Sc_kind S t0 (by omega)), if_pos tl]
  have ek : (Int32.ofInt (c t)).toInt = 85 := by rw [zi_toInt (by omega) (by omega)]; exact hk
  simp only [ek, Int.reduceEq, ↓reduceIte]
  rw [vr_gi3 X, Option.bind_some]
  cases val with
  | true =>
    rw [if_pos (show Int32.ofInt (if true = true then 0 else 1) = 0 from rfl), vr_on X, pl_ci (show ax_F (n + 2) 61 [ax_A (some vr), ax_I (Int32.ofInt t), ax_I (Int32.ofInt dep)] (cH g K s) = _ from e)]
    exact za_rz hb
  | false =>
    rw [if_neg (show ¬ Int32.ofInt (if false = true then 0 else 1) = 0 from by decide), vr_on X, pl_ci (show ax_F (n + 2) 58 [ax_A (some vr), ax_I (Int32.ofInt t), ax_I (Int32.ofInt dep)] (cH g K s) = _ from e)]
    exact za_rz hb
