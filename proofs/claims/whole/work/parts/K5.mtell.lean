/-- a holder is begun -/
def pshP (s s' : mS) (L tv wn q ch : Int) : Prop := rvF s s' ∧ rvK L s s' ∧ said s s' [ch] ∧ s'.1 48 = L + 1 ∧ s'.1 49 = s.1 49 ∧ s'.2.2.1 43 L.toNat = tv ∧ s'.2.2.1 44 L.toNat = wn ∧ s'.2.2.1 45 L.toNat = q ∧ s'.2.2.1 46 L.toNat = 0 ∧ s'.2.2.1 47 L.toNat = 0
def pshS (s : mS) (L tv wn q : Int) : mS := mI (mU (mU (mU (mU (mU s 43 L tv) 44 L wn) 45 L q) 46 L 0) 47 L 0) 48 (L + 1)
theorem pshS_P {s s1 : mS} {L tv wn q ch : Int} (F : syF s s1) (S : said s s1 [ch]) : pshP s (pshS s1 L tv wn q) L tv wn q ch := by
  have F2 : rvF s1 (pshS s1 L tv wn q) := ((((rvF_U (by omega)).trans (rvF_U (by omega))).trans (rvF_U (by omega))).trans (rvF_U (by omega))).trans ((rvF_U (by omega)).trans (rvF_I (by omega)))
  have K2 : rvK L s1 (pshS s1 L tv wn q) := ((((rvK_U (by omega)).trans (rvK_U (by omega))).trans (rvK_U (by omega))).trans (rvK_U (by omega))).trans (rvK_U (by omega))
  refine ⟨F.rv.trans F2, (F.rk L).trans K2, ?_, rfl, ?_, ?_, ?_, ?_, ?_, ?_⟩
  · have := S.trans (said_0 (s' := pshS s1 L tv wn q) rfl rfl)
    rw [List.append_nil] at this
    exact this
  · show s1.1 49 = _
    exact F.1 49 (by decide)
  · unfold pshS
    rw [mI_2, mU_ne _ _ _ _ _ (by decide), mU_ne _ _ _ _ _ (by decide), mU_ne _ _ _ _ _ (by decide), mU_ne _ _ _ _ _ (by decide), mU_3, if_pos ⟨rfl, rfl⟩]
  · unfold pshS
    rw [mI_2, mU_ne _ _ _ _ _ (by decide), mU_ne _ _ _ _ _ (by decide), mU_ne _ _ _ _ _ (by decide), mU_3, if_pos ⟨rfl, rfl⟩]
  · unfold pshS
    rw [mI_2, mU_ne _ _ _ _ _ (by decide), mU_ne _ _ _ _ _ (by decide), mU_3, if_pos ⟨rfl, rfl⟩]
  · unfold pshS
    rw [mI_2, mU_ne _ _ _ _ _ (by decide), mU_3, if_pos ⟨rfl, rfl⟩]
  · unfold pshS
    rw [mI_2, mU_3, if_pos ⟨rfl, rfl⟩]
theorem Mt_264 {m : Nat} {h : ax_Hp} {s : mS} {L tv wn q : Int} (h48 : s.1 48 = L) (l0 : 0 ≤ L) (l1 : L < 10) : Model_tell_jn264 (ax_F m) (some 24) (Int32.ofInt wn) (Int32.ofInt q) (Int32.ofInt tv) (Int32.ofInt L) (some 54) (mH h s) = some (.inl none, mH h (pshS s L tv wn q)) := by
  unfold Model_tell_jn264
  rw [mst_43 _ _ _ _ l0 l1, Option.bind_some, mgr_44, Option.bind_some, mgi_48, Option.bind_some, show (mU s 43 L tv).1 48 = L from h48, mst_44 _ _ _ _ l0 l1, Option.bind_some, mgr_45, Option.bind_some, mgi_48, Option.bind_some, show (mU (mU s 43 L tv) 44 L wn).1 48 = L from h48, mst_45 _ _ _ _ l0 l1, Option.bind_some, mgr_46, Option.bind_some, mgi_48, Option.bind_some, show (mU (mU (mU s 43 L tv) 44 L wn) 45 L q).1 48 = L from h48, zi_0, mst_46 _ _ _ _ l0 l1, Option.bind_some, mgr_47, Option.bind_some, mgi_48, Option.bind_some, show (mU (mU (mU (mU s 43 L tv) 44 L wn) 45 L q) 46 L 0).1 48 = L from h48, mst_47 _ _ _ _ l0 l1, Option.bind_some, mgi_48, Option.bind_some, show (mU (mU (mU (mU (mU s 43 L tv) 44 L wn) 45 L q) 46 L 0) 47 L 0).1 48 = L from h48, show (1 : Int32) = Int32.ofInt 1 from rfl, zi_add, mpf_48, Option.bind_some]
  rfl
theorem Mt_push {m : Nat} {h : ax_Hp} {s : mS} {L rn wn q x ch : Int} (h48 : s.1 48 = L) (l0 : 0 ≤ L) (l1 : L < 10) (r0 : 0 ≤ rn) (r1 : rn < 240) (hk : s.2.2.1 17 rn.toNat = x) (hx : x = 65 ∨ x = 82) (h70 : 0 ≤ s.1 7) (h7 : s.1 7 ≤ 1000000) : ∃ s', Model_tell_jn229 (ax_F (m + 1)) (some 24) (Int32.ofInt rn) (Int32.ofInt wn) (Int32.ofInt q) (Int32.ofInt ch) (some 24) (mH h s) = some (.inl none, mH h s') ∧ pshP s s' L (if x = 65 then rn else s.2.2.1 18 rn.toNat) wn q ch := by
  obtain ⟨s1, e1, f1, g1, -⟩ := Model_say_z (n := m) (h := h) (s := s) (x := ch) h70 (by omega)
  have k48 : s1.1 48 = L := (f1.1 48 (by decide)).trans h48
  have k17 : s1.2.2.1 17 rn.toNat = x := by rw [f1.2.1 17 (by decide)]; exact hk
  have k18 : s1.2.2.1 18 rn.toNat = s.2.2.1 18 rn.toNat := by rw [f1.2.1 18 (by decide)]
  unfold Model_tell_jn229
  rw [mS_on, pl_cv e1, mgr_43, Option.bind_some, mgi_48, Option.bind_some, k48, mgr_17, Option.bind_some, mld_17 _ _ _ r0 r1, Option.bind_some, k17]
  rcases hx with rfl | rfl
  · rw [if_pos (show Int32.ofInt 65 = 65 from rfl), if_pos rfl]
    exact ⟨_, Mt_264 k48 l0 l1, pshS_P f1 g1⟩
  · rw [if_neg (show ¬ Int32.ofInt 82 = 65 from by decide), if_neg (by decide), mgr_18, Option.bind_some, mld_18 _ _ _ r0 r1, Option.bind_some, k18]
    exact ⟨_, Mt_264 k48 l0 l1, pshS_P f1 g1⟩
/-- the core of tell: neither is a U -/
theorem Mt_core {m N : Nat} {h : ax_Hp} {s : mS} {b c d : Int → Int} {N0 N1 rn r wn w q L : Int} {D1 D2 : Nat} (R : rcx s N b c d N0 N1) (g1 : gN s.2.2.1 c N0 D1 rn r) (g2 : gN s.2.2.1 d (120 + N1) D2 wn w) (cU : d w ≠ 85) (q0 : 0 ≤ q) (q1 : q ≤ N) (hS : 0 ≤ spSc d b D2 w q) (h48 : s.1 48 = L) (l0 : 0 ≤ L) (l1 : L < 10) (h70 : 0 ≤ s.1 7) (h7 : s.1 7 ≤ 1000000) : ∃ s', Model_tell_jn128 (ax_F (m + 5)) (some 24) (Int32.ofInt rn) (Int32.ofInt wn) (Int32.ofInt q) (mH h s) = some (.inl none, mH h s') ∧
    ((d w = 65 ∧ c r = 65 ∧ pshP s s' L rn wn q 91) ∨ (d w = 82 ∧ c r = 82 ∧ pshP s s' L (s.2.2.1 18 rn.toNat) wn q 123) ∨ ((d w = 65 ∨ d w = 82) ∧ c r ≠ d w ∧ s' = mI s 49 1) ∨ (d w ≠ 65 ∧ d w ≠ 82 ∧ ∃ s1, s' = mI s1 49 (1 - bI (if c r = d w ∨ (d w = 73 ∧ c r = 76) then rxP c d b r w q else none).isSome) ∧ syF s s1 ∧ (∀ k, (if c r = d w ∨ (d w = 73 ∧ c r = 76) then rxP c d b r w q else none) = some k → said s s1 k) ∧ 0 ≤ s1.1 7 ∧ s1.1 7 ≤ s.1 7 + 100)) := by
  obtain ⟨S, T0, T1, n0, n1, -⟩ := R
  obtain ⟨r0, r1, L1⟩ := gN_k g1
  obtain ⟨w0, w1, L2⟩ := gN_k g2
  have cb := T0.2.2.2.2 r
  have db := T1.2.2.2.2 w
  have ldr : ax_ldi (mH h s) (some 36) 3 (Int32.ofInt rn) = some (Int32.ofInt (c r)) := by rw [mld_17 h s _ r0 (by omega), L1.2.2.2.1]
  have ldw : ax_ldi (mH h s) (some 36) 3 (Int32.ofInt wn) = some (Int32.ofInt (d w)) := by rw [mld_17 h s _ w0 (by omega), L2.2.2.2.1]
  have j205 : ∀ (s : mS) (v : Int), v = 0 ∨ v = 1 → Model_tell_jn205 (ax_F (m + 5)) (Int32.ofInt v) (some 24) (mH h s) = some (.inl none, mH h (mI s 49 v)) := fun s v hv => by
    unfold Model_tell_jn205
    rw [mpz_49 _ _ _ hv, Option.bind_some]
    rfl
  have j200 : ∀ (s : mS), Model_tell_jn200 (ax_F (m + 5)) (some 24) (mH h s) = some (.inl none, mH h (mI s 49 1)) := fun s => j205 s 1 (Or.inr rfl)
  have hold : (d w = 65 ∨ d w = 82) → ∃ s', Model_tell_jn152 (ax_F (m + 5)) (some 24) (Int32.ofInt rn) (Int32.ofInt wn) (Int32.ofInt q) (mH h s) = some (.inl none, mH h s') ∧ ((d w = 65 ∧ c r = 65 ∧ pshP s s' L rn wn q 91) ∨ (d w = 82 ∧ c r = 82 ∧ pshP s s' L (s.2.2.1 18 rn.toNat) wn q 123) ∨ ((d w = 65 ∨ d w = 82) ∧ c r ≠ d w ∧ s' = mI s 49 1)) := fun hw => by
    unfold Model_tell_jn152 Model_tell_jn157 Model_tell_jn181
    simp only [mgr_17, Option.bind_some, ldr, ldw]
    rw [if_neg (show ¬ (1 : Int32) = 0 by decide), if_neg (show ¬ (1 : Int32) = 0 by decide)]
    by_cases c1 : c r = d w
    · rw [if_pos (show Int32.ofInt (c r) = Int32.ofInt (d w) from by rw [c1])]
      rcases hw with hw | hw
      · obtain ⟨s', e, p⟩ := Mt_push (m := m + 4) (h := h) (rn := rn) (wn := wn) (q := q) (x := 65) (ch := 91) h48 l0 l1 r0 (by omega) (by rw [L1.2.2.2.1]; omega) (Or.inl rfl) h70 h7
        rw [if_pos rfl] at p
        rw [if_pos (show Int32.ofInt (c r) = 65 from by rw [c1, hw]; rfl)]
        exact ⟨s', e, Or.inl ⟨hw, by omega, p⟩⟩
      · obtain ⟨s', e, p⟩ := Mt_push (m := m + 4) (h := h) (rn := rn) (wn := wn) (q := q) (x := 82) (ch := 123) h48 l0 l1 r0 (by omega) (by rw [L1.2.2.2.1]; omega) (Or.inr rfl) h70 h7
        rw [if_neg (by decide)] at p
        rw [if_neg (show ¬ Int32.ofInt (c r) = 65 from by rw [c1, hw]; decide)]
        exact ⟨s', e, Or.inr (Or.inl ⟨hw, by omega, p⟩)⟩
    · rw [if_neg (show ¬ Int32.ofInt (c r) = Int32.ofInt (d w) from by rw [zi_eq (by omega) (by omega) (by omega) (by omega)]; exact c1)]
      exact ⟨_, j200 s, Or.inr (Or.inr ⟨hw, c1, rfl⟩)⟩
  unfold Model_tell_jn128
  rw [mgr_17, Option.bind_some, ldw, Option.bind_some]
  by_cases c1 : d w = 65
  · obtain ⟨s', e, p⟩ := hold (Or.inl c1)
    rw [if_pos (show Int32.ofInt (d w) = 65 from by rw [c1]; rfl)]
    exact ⟨s', e, by rcases p with p | p | p; exact Or.inl p; exact Or.inr (Or.inl p); exact Or.inr (Or.inr (Or.inl p))⟩
  · rw [if_neg (show ¬ Int32.ofInt (d w) = 65 from by rw [show (65 : Int32) = Int32.ofInt 65 from rfl, zi_eq (by omega) (by omega) (by omega) (by omega)]; exact c1), Option.bind_some, ldw, Option.bind_some]
    by_cases c2 : d w = 82
    · obtain ⟨s', e, p⟩ := hold (Or.inr c2)
      rw [if_pos (show Int32.ofInt (d w) = 82 from by rw [c2]; rfl)]
      exact ⟨s', e, by rcases p with p | p | p; exact Or.inl p; exact Or.inr (Or.inl p); exact Or.inr (Or.inr (Or.inl p))⟩
    · rw [if_neg (show ¬ Int32.ofInt (d w) = 82 from by rw [show (82 : Int32) = Int32.ofInt 82 from rfl, zi_eq (by omega) (by omega) (by omega) (by omega)]; exact c2)]
      have hw : isPl (d w) ∨ d w = 69 := by
        rcases spTy_c D2 w g2.2.2.1 g2.2.2.2 with z | z | z
        · exact Or.inl z
        · exact Or.inr z.1
        · rcases z.2 with y | y | y
          · exact absurd y c1
          · exact absurd y cU
          · exact absurd y c2
      rw [spSc_lf ⟨c1, cU, c2⟩] at hS
      obtain ⟨s1, e1, e2, e3, e4, e5⟩ := Model_tellPlain_z (m := m) (h := h) (rn := rn) (wn := wn) S T0 T1 L1 L2 hw (fun z => by
        have := gN_sd T0.2.2.2.2 g1 z
        constructor
        · intro y; rw [decide_eq_true y] at this; exact of_decide_eq_true this.symm
        · intro y; rw [decide_eq_true y] at this; exact of_decide_eq_true this) q0 q1 hS h70 (by omega)
      generalize (if c r = d w ∨ (d w = 73 ∧ c r = 76) then rxP c d b r w q else none) = o at *
      unfold Model_tell_jn157 Model_tell_jn181
      rw [if_pos rfl, if_pos rfl, mS_on, pl_ci e1]
      refine ⟨_, ?_, Or.inr (Or.inr (Or.inr ⟨c1, c2, s1, rfl, e2, e3, e4, e5⟩))⟩
      cases o with
      | none =>
        rw [if_pos (show Int32.ofInt (bI (none : Option (List Int)).isSome) = 0 from rfl)]
        exact j200 s1
      | some k =>
        rw [if_neg (show ¬ Int32.ofInt (bI (some k).isSome) = 0 from by show ¬ Int32.ofInt 1 = 0; decide)]
        exact j205 s1 0 (Or.inl rfl)
/-- the reference looks for the first branch that reads -/
theorem Mt_find {m : Nat} {h : ax_Hp} {s : mS} {P : Int → Int → Prop} {p : Int → Bool} {k q : Int} (k0 : 0 ≤ k) (k1 : k < 120) (hP : ∀ n x, P n x → 0 ≤ n ∧ n < 120 ∧ fbt s.2.2.2 n k = p x) : ∀ (l : List Int) (bn : Int) (i fuel : Nat), i + l.length ≤ 1000 → ndCh (s.2.2.1 19) P bn l → l.length < fuel → ∃ (ix nb : Int), Model_tell_lp67 (ax_F (m + 1)) fuel (some 24) (Int32.ofInt (120 + k)) (Int32.ofInt q) (Int32.ofInt i) (Int32.ofInt bn) (mH h s) = Model_tell_jn98 (ax_F (m + 1)) (some 24) (Int32.ofInt (120 + k)) (Int32.ofInt q) (Int32.ofInt ix) (Int32.ofInt nb) (mH h s) ∧ ((fstI p l i = -1 ∧ nb = -1) ∨ (fstI p l i ≠ -1 ∧ ix = fstI p l i ∧ (i : Int) ≤ ix ∧ ix - i < l.length ∧ P nb (l.getD (ix - i).toNat 0)))
  | [], bn, i, fuel, hi, C, hf => by
    obtain ⟨fuel, rfl⟩ : ∃ g, fuel = g + 1 := ⟨fuel - 1, by omega⟩
    have hstep : Model_tell_lp67 (ax_F (m + 1)) (fuel + 1) = Model_tell_bd67 (ax_F (m + 1)) (Model_tell_lp67 (ax_F (m + 1)) fuel) := rfl
    have C : bn = -1 := C
    subst C
    refine ⟨i, -1, ?_, Or.inl ⟨rfl, rfl⟩⟩
    rw [hstep]
    unfold Model_tell_bd67
    rw [if_pos (show Int32.ofInt (-1) < 0 by decide)]
  | z :: l, bn, i, fuel, hi, C, hf => by
    obtain ⟨fuel, rfl⟩ : ∃ g, fuel = g + 1 := ⟨fuel - 1, by omega⟩
    have hstep : Model_tell_lp67 (ax_F (m + 1)) (fuel + 1) = Model_tell_bd67 (ax_F (m + 1)) (Model_tell_lp67 (ax_F (m + 1)) fuel) := rfl
    obtain ⟨c1, c2, c3, c4⟩ := C
    obtain ⟨j1, j2, j3⟩ := hP _ _ c3
    rw [List.length_cons] at hf hi
    have kn := Model_knows_z (m := m) (h := h) (s := s) (r := bn) (k := k) j1 j2 k0 k1
    rw [j3] at kn
    have e : fstI p (z :: l) i = if p z then (i : Int) else fstI p l (i + 1) := rfl
    rw [hstep, e]
    unfold Model_tell_bd67
    rw [if_neg (show ¬ Int32.ofInt bn < 0 from zi_n0 c1 (by omega)), mS_on, pl_ci kn]
    cases hz : p z with
    | false =>
      obtain ⟨ix, nb, i1, i2⟩ := Mt_find (m := m) (h := h) (q := q) k0 k1 hP l _ (i + 1) fuel (by omega) c4 (by omega)
      refine ⟨ix, nb, ?_, ?_⟩
      · rw [if_pos (show Int32.ofInt (bI false) = 0 from rfl), mgr_19, Option.bind_some, mld_19 h s bn c1 (by omega), Option.bind_some, show (1 : Int32) = Int32.ofInt 1 from rfl, zi_add, show (i : Int) + 1 = ((i + 1 : Nat) : Int) by omega]
        exact i1
      · rw [if_neg (by decide), List.length_cons]
        rcases i2 with i2 | ⟨a1, a2, a3, a4, a5⟩
        · exact Or.inl i2
        · refine Or.inr ⟨a1, a2, by omega, by omega, ?_⟩
          rw [show (ix - (i : Int)).toNat = (ix - ((i + 1 : Nat) : Int)).toNat + 1 by omega]
          exact a5
    | true =>
      refine ⟨i, bn, ?_, Or.inr ⟨?_, ?_, by omega, by rw [List.length_cons]; omega, ?_⟩⟩
      · rw [if_neg (show ¬ Int32.ofInt (bI true) = 0 from by decide)]
      · rw [if_pos rfl]; omega
      · rw [if_pos rfl]
      · rw [show ((i : Int) - i).toNat = 0 by omega]
        exact c3
