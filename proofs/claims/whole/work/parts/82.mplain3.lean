theorem spNm_r {v : Int → Int} {lim : Int} (hl : lim ≤ 0) : ∀ (f : Nat) (q a : Int), lim ≤ a → a ≤ 0 → lim ≤ (spNm v lim f q a).2 ∧ (spNm v lim f q a).2 ≤ 0
  | 0, q, a, h0, h1 => ⟨h0, h1⟩
  | f + 1, q, a, h0, h1 => by
    rw [spNm_s]
    by_cases d : isDg (v q)
    · rw [if_pos d]
      by_cases d2 : 10 * a - (v q - 48) < lim
      · rw [if_pos d2]
        exact ⟨hl, Int.le_refl _⟩
      · rw [if_neg d2]
        exact spNm_r hl f (q + 1) _ (by omega) (by omega)
    · rw [if_neg d]
      exact ⟨h0, h1⟩
theorem spLim_r (w l : Bool) : -9223372036854775808 ≤ spLim w l ∧ spLim w l ≤ -2147483647 ∧ (l = false → -9223372036854775807 ≤ spLim w l) := by
  revert w l
  decide
theorem spNum_r (v : Int → Int) (w : Bool) (q : Int) : -9223372036854775808 ≤ (spNum v w q).2 ∧ (spNum v w q).2 < 9223372036854775808 := by
  unfold spNum
  have z : ∀ x : Int, -9223372036854775808 ≤ ((x, 0) : Int × Int).2 ∧ ((x, 0) : Int × Int).2 < 9223372036854775808 := fun x => ⟨by show _ ≤ (0 : Int); omega, by show (0 : Int) < _; omega⟩
  split
  · split
    · exact z _
    · have l := spLim_r w true
      have := spNm_r (v := v) (lim := spLim w true) (by omega) 20 (q + 1) 0 (by omega) (by omega)
      omega
  · split
    · exact z _
    · split
      · exact z _
      · have l := spLim_r w false
        have l3 := l.2.2 rfl
        have := spNm_r (v := v) (lim := spLim w false) (by omega) 20 q 0 (by omega) (by omega)
        show _ ≤ -(spNm v (spLim w false) 20 q 0).2 ∧ -(spNm v (spLim w false) 20 q 0).2 < _
        omega
/-- what a leaf says -/
def spLo (sp : Int) (c v : Int → Int) (t q : Int) : List Int :=
  if sp = 1 then
    (if c t = 66 then [if v q = 84 then 1 else 0]
     else if c t = 73 ∨ c t = 76 then spZb 9 (spZz (spNum v (decide (c t = 76)) q).2)
     else if c t = 69 then [2 * spIx c (t + 2) (v q) (spSy c (t + 2) 8 0)]
     else if c t = 83 then (2 * (spLf c v t q - q - 2)) :: spCh v (q + 1) (spLf c v t q - q - 2).toNat
     else [])
  else if sp = 2 then spCh v q (spLf c v t q - q).toNat else []
/-- node n is the E at t -/
def eN (A : Nat → Nat → Int) (c : Int → Int) (n t : Int) : Prop := A 22 n.toNat = t + 2 ∧ A 20 n.toNat = spSy c (t + 2) 8 0 ∧ A 23 n.toNat = (if c (t + 2 + spSy c (t + 2) 8 0) = 61 then spIx c (t + 2) (c (t + 2 + spSy c (t + 2) 8 0 + 1)) (spSy c (t + 2) 8 0) else -1) ∧ c (t + 1) = 40
def lfN (A : Nat → Nat → Int) (c : Int → Int) (n t : Int) : Prop := 0 ≤ n ∧ n < 240 ∧ 0 ≤ t ∧ A 17 n.toNat = c t ∧ (c t = 69 → eN A c n t)
theorem eN_sym {m : Nat} {h : ax_Hp} {s : mS} {tb n t x : Int} {c : Int → Int} (T : isT s tb c) (ht : 0 ≤ tb) (ht1 : tb < 2) (L : lfN s.2.2.1 c n t) (hE : c t = 69) (hx : 0 ≤ x) (hx1 : x < 65536) : ax_F (m + 1) 163 [ax_A (some 24), ax_I (Int32.ofInt tb), ax_I (Int32.ofInt n), ax_I (Int32.ofInt x)] (mH h s) = some (.inl (some (ax_I (Int32.ofInt (spIx c (t + 2) x (spSy c (t + 2) 8 0))))), mH h s) := by
  obtain ⟨l1, l2, l3, l4, l5⟩ := L
  obtain ⟨e1, e2, e3, e4⟩ := l5 hE
  have k8 := (spSy_k (c := c) (p := t + 2) 8 0).2.1
  have hN := T.2.2.2.1
  have b := lt_of hN (q := t + 1) (by omega)
  have b2 := spSy_n hN (p := t + 2) (by omega) _ rfl
  exact Model_symbol_z T ht ht1 l1 l2 e2 (by omega) e1 (by omega) b2 hx hx1
theorem Model_sayBytes_S {m : Nat} {h : ax_Hp} {v : Int → Int} {q : Int} : ∀ (r : Nat) (s : mS) (n : Nat) (fuel : Nat), isV s v → s.2.1 = n → n ≤ 12 → r ≤ n → 0 ≤ q → q < 800000 → 0 ≤ s.1 7 → s.1 7 + r < 1900000000 → r < fuel → ∃ s', Model_sayBytes_lp135 (ax_F (m + 2)) fuel (some 24) (Int32.ofInt q) (Int32.ofInt ((n - r : Nat) : Int)) (mH h s) = some (.inl none, mH h s') ∧ syF s s' ∧ said s s' (spCh v (q + 1 + ((n - r : Nat) : Int)) r)
  | 0, s, n, fuel, V, ha, hn, hr, q0, q1, d0, d1, hf => by
    obtain ⟨fuel, rfl⟩ : ∃ g, fuel = g + 1 := ⟨fuel - 1, by omega⟩
    have hstep : Model_sayBytes_lp135 (ax_F (m + 2)) (fuel + 1) = Model_sayBytes_bd135 (ax_F (m + 2)) (Model_sayBytes_lp135 (ax_F (m + 2)) fuel) := rfl
    refine ⟨s, ?_, syF_refl s, said_0 rfl rfl⟩
    rw [hstep]
    unfold Model_sayBytes_bd135
    rw [mgl_37, Option.bind_some, zl_of32 (by omega) (by omega), ha, if_pos (by rw [zl_cmp_ge, zl_le (by omega) (by omega) (by omega) (by omega)]; omega)]
    rfl
  | r + 1, s, n, fuel, V, ha, hn, hr, q0, q1, d0, d1, hf => by
    obtain ⟨fuel, rfl⟩ : ∃ g, fuel = g + 1 := ⟨fuel - 1, by omega⟩
    have hstep : Model_sayBytes_lp135 (ax_F (m + 2)) (fuel + 1) = Model_sayBytes_bd135 (ax_F (m + 2)) (Model_sayBytes_lp135 (ax_F (m + 2)) fuel) := rfl
    obtain ⟨s1, e1, f1, g1, a1⟩ := Model_say_z (n := m + 1) (h := h) (s := s) (x := v (q + 1 + ((n - (r + 1) : Nat) : Int))) d0 (by omega)
    have := said_1 g1
    obtain ⟨s2, e2, f2, g2⟩ := Model_sayBytes_S (m := m) (h := h) (v := v) (q := q) r s1 n fuel (syF_isV f1 V) (a1.trans ha) hn (by omega) q0 q1 (by rw [this]; simp; omega) (by rw [this]; simp; omega) (by omega)
    rw [show ((n - r : Nat) : Int) = ((n - (r + 1) : Nat) : Int) + 1 by omega] at e2 g2
    rw [show q + 1 + (((n - (r + 1) : Nat) : Int) + 1) = q + 1 + ((n - (r + 1) : Nat) : Int) + 1 by omega] at g2
    refine ⟨s2, ?_, f1.trans f2, g1.trans g2⟩
    rw [hstep]
    unfold Model_sayBytes_bd135
    rw [mgl_37, Option.bind_some, zl_of32 (by omega) (by omega), ha, if_neg (by rw [zl_cmp_ge, zl_le (by omega) (by omega) (by omega) (by omega)]; omega), mS_on, show (1 : Int32) = Int32.ofInt 1 from rfl, zi_add, zi_add, pl_ci (Model_see_z V (by omega) (by omega)), mS_on, pl_cv e1, zi_add]
    exact e2
theorem Model_sayBytes_z {m : Nat} {h : ax_Hp} {s : mS} {c v : Int → Int} {n t q : Int} (T : isT s (s.1 30) c) (V : isV s v) (ht : s.1 30 = 0 ∨ s.1 30 = 1) (L : lfN s.2.2.1 c n t) (q0 : 0 ≤ q) (q1 : q < 300000) (d0 : 0 ≤ s.1 7) (d1 : s.1 7 < 1800000000) (hsp : 0 ≤ s.1 39 ∧ s.1 39 ≤ 2)
    (hS : c t = 83 → 0 ≤ s.2.1 ∧ s.2.1 ≤ 12 ∧ s.2.1 = spLf c v t q - q - 2) (hI : c t = 73 ∨ c t = 76 → s.2.1 = (spNum v (decide (c t = 76)) q).2) : ∃ s', ax_F (m + 3) 166 [ax_A (some 24), ax_I (Int32.ofInt n), ax_I (Int32.ofInt q)] (mH h s) = some (.inl none, mH h s') ∧ syF s s' ∧ said s s' (if s.1 39 = 1 then spLo 1 c v t q else []) := by
  have b := isV_b V q
  have bt := T.2.2.2.2 t
  have L' := L
  obtain ⟨l1, l2, l3, l4, l5⟩ := L
  rw [Model_sayBytes_F]
  unfold Model_sayBytes_b Model_sayBytes_jn36 Model_sayBytes_jn64
  by_cases c1 : s.1 39 = 1
  · rw [if_pos c1]
    unfold spLo
    rw [if_pos rfl]
    by_cases k1 : c t = 66
    · obtain ⟨s1, e1, f1, g1, a1⟩ := Model_say_z (n := m + 1) (h := h) (s := s) (x := if v q = 84 then 1 else 0) d0 (by omega)
      refine ⟨s1, ?_, f1, by rw [if_pos k1]; exact g1⟩
      simp (disch := omega) only [↓mgi_30, ↓mgi_39, mgl_37, ↓mgr_17, mld_17, mS_on, Option.bind_some, ↓zi_lit, zi_eq, ↓reduceIte, eq_self, Int.reduceEq, c1, l4, k1]
      rw [pl_ci (Model_see_z V q0 (by omega))]
      simp (disch := omega) only [mS_on, zi_eq]
      by_cases k2 : v q = 84
      · rw [if_pos k2] at e1 ⊢
        rw [pl_cv e1]; rfl
      · rw [if_neg k2] at e1 ⊢
        rw [pl_cv e1]; rfl
    · rw [if_neg k1]
      by_cases k2 : c t = 73 ∨ c t = 76
      · rw [if_pos k2]
        have ha := hI k2
        have r := spNum_r v (decide (c t = 76)) q
        obtain ⟨s1, e1, f1, g1, a1⟩ := Model_sayAmount_z (m := m) (h := h) (s := s) (a := s.2.1) (by omega) (by omega) d0 d1
        refine ⟨s1, ?_, f1, ha ▸ g1⟩
        rcases k2 with k2 | k2
        · simp (disch := omega) only [↓mgi_30, ↓mgi_39, mgl_37, ↓mgr_17, mld_17, mS_on, Option.bind_some, ↓zi_lit, zi_eq, ↓reduceIte, eq_self, Int.reduceEq, c1, l4, k2, e1]
          rfl
        · simp (disch := omega) only [↓mgi_30, ↓mgi_39, mgl_37, ↓mgr_17, mld_17, mS_on, Option.bind_some, ↓zi_lit, zi_eq, ↓reduceIte, eq_self, Int.reduceEq, c1, l4, k2, e1]
          rfl
      · rw [if_neg k2]
        have k73 : ¬ c t = 73 := fun z => k2 (Or.inl z)
        have k76 : ¬ c t = 76 := fun z => k2 (Or.inr z)
        by_cases k3 : c t = 69
        · rw [if_pos k3]
          have r := spIx_r (c := c) (p := t + 2) (x := v q) (spSy c (t + 2) 8 0)
          have k8 := (spSy_k (c := c) (p := t + 2) 8 0).2.1
          obtain ⟨s1, e1, f1, g1, a1⟩ := Model_say_z (n := m + 1) (h := h) (s := s) (x := 2 * spIx c (t + 2) (v q) (spSy c (t + 2) 8 0)) d0 (by omega)
          refine ⟨s1, ?_, f1, g1⟩
          simp (disch := omega) only [↓mgi_30, ↓mgi_39, mgl_37, ↓mgr_17, mld_17, mS_on, Option.bind_some, ↓zi_lit, zi_eq, ↓reduceIte, eq_self, Int.reduceEq, c1, l4, k3]
          rw [pl_ci (Model_see_z V q0 (by omega)), mS_on, pl_ci (eN_sym T (by omega) (by omega) L' k3 b.1 (by omega)), mS_on, zi_mul, pl_cv e1]
          rfl
        · rw [if_neg k3]
          by_cases k4 : c t = 83
          · rw [if_pos k4]
            obtain ⟨a0, a1, a2⟩ := hS k4
            obtain ⟨s1, e1, f1, g1, x1⟩ := Model_say_z (n := m + 1) (h := h) (s := s) (x := 2 * s.2.1) d0 (by omega)
            have := said_1 g1
            obtain ⟨s2, e2, f2, g2⟩ := Model_sayBytes_S (m := m) (h := h) (v := v) (q := q) s.2.1.toNat s1 s.2.1.toNat ax_fuel (syF_isV f1 V) (by rw [x1]; omega) (by omega) (Nat.le_refl _) q0 (by omega) (by rw [this]; simp; omega) (by rw [this]; simp; omega) (by unfold ax_fuel; omega)
            refine ⟨s2, ?_, f1.trans f2, ?_⟩
            · simp (disch := omega) only [↓mgi_30, ↓mgi_39, mgl_37, ↓mgr_17, mld_17, mS_on, Option.bind_some, ↓zi_lit, zi_eq, ↓reduceIte, eq_self, Int.reduceEq, c1, l4, k4]
              have e3 : (Int64.toInt32 (2 * Int64.ofInt s.2.1)) = Int32.ofInt (2 * s.2.1) := by
                rw [zl_lit, zl_mul]
                have := zb_32 (2 * s.2.1).toNat (by omega)
                rw [show (((2 * s.2.1).toNat : Nat) : Int) = 2 * s.2.1 by omega] at this
                exact this
              rw [e3, pl_cv e1]
              rw [Nat.sub_self] at e2
              exact e2
            · have := g1.trans g2
              rw [Nat.sub_self, show q + 1 + ((0 : Nat) : Int) = q + 1 by omega] at this
              rw [← a2]
              exact this
          · rw [if_neg k4]
            refine ⟨s, ?_, syF_refl s, said_0 rfl rfl⟩
            simp (disch := omega) only [↓mgi_30, ↓mgi_39, mgl_37, ↓mgr_17, mld_17, mS_on, Option.bind_some, ↓zi_lit, zi_eq, ↓reduceIte, eq_self, c1, l4, k1, k73, k76, k3, k4]
            rfl
  · rw [if_neg c1]
    refine ⟨s, ?_, syF_refl s, said_0 rfl rfl⟩
    rw [mgi_39, Option.bind_some, if_neg (show ¬ Int32.ofInt (s.1 39) = 1 from by rw [show (1 : Int32) = Int32.ofInt 1 from rfl, zi_eq (by omega) (by omega) (by omega) (by omega)]; exact c1)]
    rfl
theorem Model_readPlain_z {m : Nat} {h : ax_Hp} {s : mS} {c v : Int → Int} {n t q : Int} (T : isT s (s.1 30) c) (V : isV s v) (ht : s.1 30 = 0 ∨ s.1 30 = 1) (L : lfN s.2.2.1 c n t) (q0 : 0 ≤ q) (q1 : q ≤ 160) (hv : ∀ p, 160 ≤ p → v p = 0) (d0 : 0 ≤ s.1 7) (d1 : s.1 7 < 900000000) (hsp : 0 ≤ s.1 39 ∧ s.1 39 ≤ 2) : ∃ s', ax_F (m + 4) 162 [ax_A (some 24), ax_I (Int32.ofInt n), ax_I (Int32.ofInt q)] (mH h s) = some (.inl (some (ax_I (Int32.ofInt (spLf c v t q)))), mH h s') ∧ syF s s' ∧ (0 ≤ spLf c v t q → said s s' (spLo (s.1 39) c v t q)) ∧ (spLf c v t q < 0 → s'.1 7 = s.1 7) := by
  have b := isV_b V q
  have bt := T.2.2.2.2 t
  have B := spLf_b (c := c) hv t q q0 q1
  unfold bd at B
  have L' := L
  obtain ⟨l1, l2, l3, l4, l5⟩ := L
  -- the end of the road, once the leaf is read
  have fin : ∀ s1 : mS, syF s s1 → s1.1 7 = s.1 7 → s1.2.2.1 8 = s.2.2.1 8 → (c t = 83 → 0 ≤ spLf c v t q → 0 ≤ s1.2.1 ∧ s1.2.1 ≤ 12 ∧ s1.2.1 = spLf c v t q - q - 2) → (c t = 73 ∨ c t = 76 → 0 ≤ spLf c v t q → s1.2.1 = (spNum v (decide (c t = 76)) q).2) → ∃ s', Model_readPlain_jn167 (ax_F (m + 3)) (some 24) (Int32.ofInt n) (Int32.ofInt q) (Int32.ofInt (spLf c v t q)) (mH h s1) = some (.inl (some (ax_I (Int32.ofInt (spLf c v t q)))), mH h s') ∧ syF s s' ∧ (0 ≤ spLf c v t q → said s s' (spLo (s.1 39) c v t q)) ∧ (spLf c v t q < 0 → s'.1 7 = s.1 7) := by
    intro s1 f1 x7 x8 hS hI
    unfold Model_readPlain_jn167 Model_readPlain_jn185
    by_cases e : spLf c v t q < 0
    · refine ⟨s1, ?_, f1, fun z => absurd z (by omega), fun _ => x7⟩
      rw [if_pos (show Int32.ofInt (spLf c v t q) < 0 from by rw [zi_0, zi_lt (by omega) (by omega) (by omega) (by omega)]; exact e)]
      rfl
    · have x39 := f1.1 39 (by decide)
      have x30 := f1.1 30 (by decide)
      obtain ⟨s2, e2, f2, g2⟩ := Model_sayBytes_z (m := m) (h := h) (s := s1) (c := c) (v := v) (n := n) (t := t) (q := q) (by rw [x30]; exact syF_isT f1 T) (syF_isV f1 V) (by omega) ⟨l1, l2, l3, by rw [f1.2.1 17 (by decide)]; exact l4, fun z => by have := l5 z; unfold eN at *; rw [f1.2.1 22 (by decide), f1.2.1 20 (by decide), f1.2.1 23 (by decide)]; exact this⟩ q0 (by omega) (by omega) (by omega) (by omega) (fun z => hS z (by omega)) (fun z => hI z (by omega))
      have n2 := said_1 g2
      have y39 := f2.1 39 (by decide)
      have lb : (if s1.1 39 = 1 then spLo 1 c v t q else []).length ≤ 1000 := by
        have lz := spZb_len 9 (spZz (spNum v (decide (c t = 76)) q).2)
        have lc := spCh_len v (spLf c v t q - q - 2).toNat (q + 1)
        split
        · unfold spLo
          rw [if_pos rfl]
          split
          · simp
          · split
            · omega
            · split
              · simp
              · split
                · rw [List.length_cons, lc]; omega
                · simp
        · simp
      obtain ⟨s3, e3, f3, g3, -⟩ := Model_sayCharacters_z (m := m) (h := h) (s := s2) (p := q) (q := spLf c v t q) (syF_isV f2 (syF_isV f1 V)) q0 (by omega) (by omega) (by omega) (by omega) (by omega)
      refine ⟨s3, ?_, f1.trans (f2.trans f3), fun _ => ?_, fun z => absurd z e⟩
      · rw [if_neg (show ¬ Int32.ofInt (spLf c v t q) < 0 from by rw [zi_0, zi_lt (by omega) (by omega) (by omega) (by omega)]; exact e), mS_on, pl_cv e2, mS_on, pl_cv e3]
        rfl
      · have g := (said_0 x7 x8).trans (g2.trans g3)
        rw [y39, x39] at g
        rw [List.nil_append] at g
        by_cases k1 : s.1 39 = 1
        · rw [if_pos k1, if_neg (by omega), List.append_nil] at g
          rw [k1]
          exact g
        · rw [if_neg k1, List.nil_append] at g
          unfold spLo
          rw [if_neg k1]
          exact g
  rw [Model_readPlain_F]
  unfold Model_readPlain_b Model_readPlain_jn91 Model_readPlain_jn99 Model_readPlain_jn127 Model_readPlain_jn129 Model_readPlain_jn74 Model_readPlain_jn162
  rw [mS_on, pl_ci (Model_see_z V q0 (by omega)), mgr_17, Option.bind_some, mld_17 _ _ _ l1 l2, Option.bind_some, l4, zi_toInt (by omega) (by omega)]
  by_cases k1 : c t = 66
  · have := fin s (syF_refl s) rfl rfl (fun z => by omega) (fun z => by omega)
    have ev : spLf c v t q = if v q = 84 ∨ v q = 70 then q + 1 else -1 - q := by unfold spLf; rw [if_neg (by omega), if_pos k1]
    rw [if_pos k1]
    rw [show (84 : Int32) = Int32.ofInt 84 from rfl, show (70 : Int32) = Int32.ofInt 70 from rfl, show (-1 : Int32) = Int32.ofInt (-1) from rfl, show (1 : Int32) = Int32.ofInt 1 from rfl, zi_add, zi_sub]
    simp (disch := omega) only [zi_eq]
    rw [ev] at this ⊢
    by_cases k2 : v q = 84
    · rw [if_pos k2]; rw [if_pos (Or.inl k2)] at this ⊢; exact this
    · rw [if_neg k2]
      by_cases k3 : v q = 70
      · rw [if_pos k3]; rw [if_pos (Or.inr k3)] at this ⊢; exact this
      · rw [if_neg k3]; rw [if_neg (show ¬ (v q = 84 ∨ v q = 70) by omega)] at this ⊢; exact this
  · rw [if_neg k1]
    by_cases k2 : c t = 69
    · have := fin s (syF_refl s) rfl rfl (fun z => by omega) (fun z => by omega)
      have ev : spLf c v t q = if spIx c (t + 2) (v q) (spSy c (t + 2) 8 0) < 0 then -1 - q else q + 1 := by unfold spLf; rw [if_neg (by omega), if_neg k1, if_pos k2]
      have r := spIx_r (c := c) (p := t + 2) (x := v q) (spSy c (t + 2) 8 0)
      have k8 := (spSy_k (c := c) (p := t + 2) 8 0).2.1
      rw [if_pos k2, show (-1 : Int32) = Int32.ofInt (-1) from rfl, show (1 : Int32) = Int32.ofInt 1 from rfl, zi_add, zi_sub, mgi_30, Option.bind_some, mS_on, pl_ci (eN_sym T (by omega) (by omega) L' k2 b.1 (by omega)), zi_0]
      simp (disch := omega) only [zi_eq, zi_lt]
      rw [ev] at this ⊢
      by_cases k3 : v q = 0
      · have : spIx c (t + 2) (v q) (spSy c (t + 2) 8 0) < 0 := by
          refine Decidable.byContradiction fun z => ?_
          obtain ⟨j, j1, j2⟩ := spIx_c (c := c) (p := t + 2) (x := v q) _ (Int.not_lt.mp z)
          have := (spSy_k (c := c) (p := t + 2) 8 0).2.2 j (Nat.zero_le _) j1
          omega
        rw [if_pos k3]
        rename_i tt
        rw [if_pos this] at tt ⊢
        exact tt
      · rw [if_neg k3]
        by_cases k4 : spIx c (t + 2) (v q) (spSy c (t + 2) 8 0) < 0
        · rw [if_pos k4]; rw [if_pos k4] at this ⊢; exact this
        · rw [if_neg k4]; rw [if_neg k4] at this ⊢; exact this
    · rw [if_neg k2]
      by_cases k3 : c t = 78
      · have := fin s (syF_refl s) rfl rfl (fun z => by omega) (fun z => by omega)
        have ev : spLf c v t q = if v q = 78 then q + 1 else -1 - q := by unfold spLf; rw [if_pos k3]
        rw [if_pos k3, show (78 : Int32) = Int32.ofInt 78 from rfl, show (-1 : Int32) = Int32.ofInt (-1) from rfl, show (1 : Int32) = Int32.ofInt 1 from rfl, zi_add, zi_sub]
        simp (disch := omega) only [zi_eq]
        rw [ev] at this ⊢
        by_cases k4 : v q = 78
        · rw [if_pos k4]; rw [if_pos k4] at this ⊢; exact this
        · rw [if_neg k4]; rw [if_neg k4] at this ⊢; exact this
      · rw [if_neg k3]
        by_cases k4 : c t = 83
        · have ev : spLf c v t q = if v q = 34 then spStr v 12 (q + 1) else -1 - q := by unfold spLf; rw [if_neg k3, if_neg k1, if_neg k2, if_pos k4]
          obtain ⟨x, e1, x1⟩ := Model_readRow_z (m := m) (h := h) V q0 (by omega)
          rw [← ev] at e1 x1
          have := fin (mL s x) (syF_L s x) rfl rfl (fun _ z => by have := x1 z; exact ⟨this.1, this.2.1, by show x = _; omega⟩) (fun z => by omega)
          rw [if_pos k4, mS_on, pl_ci e1]
          exact this
        · rw [if_neg k4, Option.bind_some, mld_17 _ _ _ l1 l2, Option.bind_some, l4]
          have ev : spLf c v t q = (spNum v (decide (c t = 76)) q).1 := by unfold spLf; rw [if_neg k3, if_neg k1, if_neg k2, if_neg k4]
          have key : ∀ w : Int32, (w = 0 ↔ decide (c t = 76) = false) → ∃ s', (ax_on (mH h s) (some 24) 9 <| ax_ci (ax_F (m + 3) 165 [ax_A (some 24), ax_I (Int32.ofInt q), ax_I w] (mH h s)) fun v17 h16 => Model_readPlain_jn167 (ax_F (m + 3)) (some 24) (Int32.ofInt n) (Int32.ofInt q) v17 h16) = some (.inl (some (ax_I (Int32.ofInt (spLf c v t q)))), mH h s') ∧ syF s s' ∧ (0 ≤ spLf c v t q → said s s' (spLo (s.1 39) c v t q)) ∧ (spLf c v t q < 0 → s'.1 7 = s.1 7) := by
            intro w hw
            have e1 := Model_readNumber_z (m := m) (h := h) hw V q0 (by omega)
            rw [← ev] at e1
            by_cases z : 0 ≤ spLf c v t q
            · rw [if_pos z] at e1
              have := fin (mL s (spNum v (decide (c t = 76)) q).2) (syF_L s _) rfl rfl (fun y => absurd y k4) (fun _ _ => rfl)
              rw [mS_on, pl_ci e1]
              exact this
            · rw [if_neg z] at e1
              have := fin s (syF_refl s) rfl rfl (fun y => absurd y k4) (fun _ y => absurd y z)
              rw [mS_on, pl_ci e1]
              exact this
          by_cases k5 : c t = 76
          · rw [if_pos (show Int32.ofInt (c t) = 76 from by rw [k5]; rfl)]
            exact key 1 ⟨fun z => absurd z (by decide), fun z => by rw [decide_eq_false_iff_not] at z; exact absurd k5 z⟩
          · rw [if_neg (show ¬ Int32.ofInt (c t) = 76 from by rw [show (76 : Int32) = Int32.ofInt 76 from rfl, zi_eq (by omega) (by omega) (by omega) (by omega)]; exact k5)]
            exact key 0 ⟨fun _ => decide_eq_false k5, fun _ => rfl⟩
