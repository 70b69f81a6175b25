theorem spCh_sn (v : Int → Int) : ∀ (n : Nat) (p : Int), spCh v p (n + 1) = spCh v p n ++ [v (p + n)]
  | 0, p => by show [v p] = [v (p + ((0 : Nat) : Int))]; rw [show p + ((0 : Nat) : Int) = p by omega]
  | n + 1, p => by
    show v p :: spCh v (p + 1) (n + 1) = v p :: (spCh v (p + 1) n ++ _)
    rw [spCh_sn v n, show p + 1 + (n : Int) = p + ((n + 1 : Nat) : Int) by omega]
/-- the slot kept for a number is filled -/
theorem Ro_setE {m : Nat} {g : ax_Hp} {K : Nat → Nat} {s0 s : cS} {x y : Int} {L : List Int} (h : kOk K) (r0 : bRm K s0 0) (r : bRm K s 0) (B : bsE K s0 s (x :: L)) : ∃ s', ax_F (m + 1) 53 [ax_A (some (K 4)), ax_I (Int32.ofInt s0.2.2.2.2.1), ax_I (Int32.ofInt y)] (cH g K s) = some (.inl none, cH g K s') ∧ s'.1 = s.1 ∧ mkE s s' ∧ bsE K s0 s' (y :: L) ∧ bRm K s' 0 ∧ s'.2.2.2.2.1 = s.2.2.2.2.1 := by
  have k9 := h.2.2.2
  have hz : s.2.2.2.2.1 ≤ K 9 := by
    by_cases z : K 9 = 0
    · have := r.2.1 z; omega
    · have := r.2.2 z; omega
  have hz0 : s0.2.2.2.2.1 ≤ K 9 := by
    by_cases z : K 9 = 0
    · have := r0.2.1 z; omega
    · have := r0.2.2 z; omega
  have e := Ro_set (m := m) (g := g) (s := s) (i := s0.2.2.2.2.1) (x := y) h r0.1 (by omega) r.1 hz
  by_cases z : K 9 = 0
  · have z1 := r0.2.1 z
    have z2 := r.2.1 z
    rw [if_neg (by omega)] at e
    exact ⟨s, e, rfl, mkE_refl s, ⟨B.1, fun w => absurd z w⟩, r, rfl⟩
  · obtain ⟨b1, b2, b3⟩ := B.2 z
    rw [List.length_cons] at b1
    have hlt : s0.2.2.2.2.1 < s.2.2.2.2.1 := by omega
    rw [if_pos hlt] at e
    refine ⟨_, e, rfl, ⟨rfl, rfl, rfl⟩, ⟨fun w => absurd w z, fun _ => ⟨b1, fun i hi => ?_, fun j hj => ?_⟩⟩, r, rfl⟩
    · show (if i = s0.2.2.2.2.1.toNat then y else _) = _
      rw [if_neg (by have := r0.1; omega)]
      exact b2 i hi
    · show (if (s0.2.2.2.2.1 + (j : Int)).toNat = s0.2.2.2.2.1.toNat then y else _) = _
      have := r0.1
      cases j with
      | zero => rw [if_pos (by omega)]; rfl
      | succ j =>
        rw [if_neg (by omega)]
        exact b3 (j + 1) hj
theorem Vr_strL {m : Nat} {g : ax_Hp} {K : Nat → Nat} {v : Int → Int} {vr sc : Nat} {val : Bool} {s0 : cS} {q : Int} (h : kOk K) (X : vrX g K vr sc val) (V : cvX g K v) (q0 : 0 ≤ q) (r0 : bRm K s0 0) : ∀ (f : Nat) (s : cS) (n : Nat) (fuel : Nat), s.1 = q + 1 + n → s.1 ≤ 160 → n + f = 12 → mkE s0 s → bsE K s0 s (0 :: spCh v (q + 1) n) → bRm K s (161 - s.1) → f < fuel → ∃ s', ValueReader_readString_lp35 (ax_F (m + 1)) fuel (some vr) (Int32.ofInt s0.2.2.2.2.1) (Int32.ofInt n) (Int32.ofInt n) (cH g K s) = some (.inl (some (ax_I (Int32.ofInt (if 0 ≤ spStr v f s.1 then 1 else 0)))), cH g K s') ∧ vEnd s' (spStr v f s.1) ∧ mkE s0 s' ∧ (0 ≤ spStr v f s.1 → bsE K s0 s' ((2 * (spStr v f s.1 - q - 2)) :: spCh v (q + 1) (spStr v f s.1 - q - 2).toNat)) := by
  have fin : ∀ (s : cS) (n : Nat), s.1 = q + 1 + n → s.1 ≤ 160 → n ≤ 12 → mkE s0 s → bsE K s0 s (0 :: spCh v (q + 1) n) → bRm K s (161 - s.1) → ∃ s', ((ax_gr (cH g K s) (some vr) 7 2).bind fun v10 => ax_on (cH g K s) v10 2 <| ax_cv (ax_F (m + 1) 53 [ax_A v10, ax_I (Int32.ofInt s0.2.2.2.2.1), ax_I (2 * Int32.ofInt n)] (cH g K s)) fun h11 => (ax_gr h11 (some vr) 7 0).bind fun v13 => ax_on h11 v13 0 <| ax_ci (ax_F (m + 1) 30 [ax_A v13, ax_I 34] h11) fun v15 h14 => ax_rz v15 h14) = some (.inl (some (ax_I (Int32.ofInt (if v s.1 = 34 then 1 else 0)))), cH g K s') ∧ s'.1 = (if v s.1 = 34 then s.1 + 1 else s.1) ∧ mkE s0 s' ∧ bsE K s0 s' ((2 * (n : Int)) :: spCh v (q + 1) n) := by
    intro s n hs hs1 hn M B r
    obtain ⟨s1, e, e1, e2, e3, _, _⟩ := Ro_setE (m := m) (g := g) (y := 2 * (n : Int)) h r0 ⟨r.1, r.2.1, fun w => by have := r.2.2 w; omega⟩ B
    rw [vr_gr2 X, Option.bind_some, ro_on h, show (2 : Int32) = Int32.ofInt 2 from rfl, zi_mul, pl_cv e, vr_gr0 X, Option.bind_some, cu_on, show (34 : Int32) = Int32.ofInt 34 from rfl, pl_ci (Cu_take h V (by omega) (by omega) (by decide) (by decide)), e1]
    by_cases c : v s.1 = 34
    · simp only [if_pos c]
      exact ⟨cAt s1 (s.1 + 1), za_rz (Or.inr rfl), rfl, (M.trans e2).trans ⟨rfl, rfl, rfl⟩, e3⟩
    · simp only [if_neg c]
      exact ⟨s1, za_rz (Or.inl rfl), e1, M.trans e2, e3⟩
  intro f
  induction f with
  | zero =>
    intro s n fuel hs hs1 hn M B r hfu
    obtain ⟨fuel, rfl⟩ : ∃ g, fuel = g + 1 := ⟨fuel - 1, by omega⟩
    have hstep : ValueReader_readString_lp35 (ax_F (m + 1)) (fuel + 1) = ValueReader_readString_bd35 (ax_F (m + 1)) (ValueReader_readString_lp35 (ax_F (m + 1)) fuel) := rfl
    obtain ⟨s', e1, e2, e3, e4⟩ := fin s n hs hs1 (by omega) M B r
    rw [spStr_0, hstep]
    unfold ValueReader_readString_bd35
    rw [if_pos (show (12 : Int32) ≤ Int32.ofInt n from by rw [show (12 : Int32) = Int32.ofInt 12 from rfl, zi_le (by omega) (by omega) (by omega) (by omega)]; omega)]
    by_cases c : v s.1 = 34
    · rw [if_pos c] at e1 e2
      rw [if_pos c]
      refine ⟨s', ?_, ?_, e3, fun _ => ?_⟩
      · rw [if_pos (show 0 ≤ s.1 + 1 by omega)]; exact e1
      · unfold vEnd; rw [if_pos (show 0 ≤ s.1 + 1 by omega)]; exact e2
      · rw [show s.1 + 1 - q - 2 = (n : Int) by omega, Int.toNat_natCast]; exact e4
    · rw [if_neg c] at e1 e2
      rw [if_neg c]
      refine ⟨s', ?_, ?_, e3, fun z => absurd z (by omega)⟩
      · rw [if_neg (show ¬ 0 ≤ -1 - s.1 by omega)]; exact e1
      · unfold vEnd; rw [if_neg (show ¬ 0 ≤ -1 - s.1 by omega), e2]; omega
  | succ f ih =>
    intro s n fuel hs hs1 hn M B r hfu
    obtain ⟨fuel, rfl⟩ : ∃ g, fuel = g + 1 := ⟨fuel - 1, by omega⟩
    have hstep : ValueReader_readString_lp35 (ax_F (m + 1)) (fuel + 1) = ValueReader_readString_bd35 (ax_F (m + 1)) (ValueReader_readString_lp35 (ax_F (m + 1)) fuel) := rfl
    have b := pk_b V (q := s.1) (by omega)
    have k7 := h.2.1
    obtain ⟨s', e1, e2, e3, e4⟩ := fin s n hs hs1 (by omega) M B r
    rw [spStr_s, hstep]
    unfold ValueReader_readString_bd35
    rw [if_neg (show ¬ (12 : Int32) ≤ Int32.ofInt n from by rw [show (12 : Int32) = Int32.ofInt 12 from rfl, zi_le (by omega) (by omega) (by omega) (by omega)]; omega), vr_gr0 X, Option.bind_some, cu_on, pl_ci (Cu_end h (by omega) (by omega))]
    by_cases c0 : s.1 < K 7
    · have hv : v s.1 ≠ 0 := fun z => by
        have := b.2.2.2.1 z
        unfold pk at this
        rw [if_pos c0] at this
        omega
      simp only [if_pos c0]
      rw [if_pos (show Int32.ofInt 0 = 0 from rfl), vr_gr0 X, Option.bind_some, cu_on, pl_ci (Cu_pk h V (by omega) (by omega)), b.2.2.1 hv]
      by_cases c : v s.1 = 34
      · rw [if_pos c] at e1 e2
        rw [if_pos (show Int32.ofInt (v s.1) = 34 from by rw [c]; rfl), if_pos c]
        refine ⟨s', ?_, ?_, e3, fun _ => ?_⟩
        · rw [if_pos (show 0 ≤ s.1 + 1 by omega)]; exact e1
        · unfold vEnd; rw [if_pos (show 0 ≤ s.1 + 1 by omega)]; exact e2
        · rw [show s.1 + 1 - q - 2 = (n : Int) by omega, Int.toNat_natCast]; exact e4
      · rw [if_neg (show ¬ Int32.ofInt (v s.1) = 34 from by rw [show (34 : Int32) = Int32.ofInt 34 from rfl, zi_eq (by omega) (by omega) (by omega) (by omega)]; exact c), if_neg c, if_neg hv, vr_gr2 X, Option.bind_some, vr_gr0 X, Option.bind_some, cu_on, pl_ci (Cu_pk h V (by omega) (by omega)), b.2.2.1 hv, ro_on h]
        obtain ⟨s1, y, a1, a2, a3, a4⟩ := Ro_addE (m := m) (g := g) (s := s) (x := v s.1) h ⟨r.1, r.2.1, fun w => by have := r.2.2 w; omega⟩
        have r1 := bsE_rm a4 r
        rw [pl_ci a1, vr_gr0 X, Option.bind_some, cu_on, pl_cv (Cu_stepN h V (by omega) (by omega) (by rw [a2]; exact hv)), show (1 : Int32) = Int32.ofInt 1 from rfl, zi_add, a2]
        have B1 := B.trans r0.1 a4
        rw [List.cons_append, show s.1 = q + 1 + (n : Int) from hs, ← spCh_sn v n (q + 1)] at B1
        exact ih (cAt s1 (s.1 + 1)) (n + 1) fuel (by show s.1 + 1 = _; omega) (by show s.1 + 1 ≤ 160; omega) (by omega) ((M.trans a3).trans ⟨rfl, rfl, rfl⟩) B1 (by rw [List.length_singleton] at r1; rw [cAt_1, show 161 - (s.1 + 1) = 161 - s.1 - ((1 : Nat) : Int) by omega]; exact r1) (by omega)
    · have hv : v s.1 = 0 := Classical.byContradiction fun z => c0 (b.2.2.2.2.2 z)
      have c : ¬ v s.1 = 34 := by omega
      rw [if_neg c] at e1 e2
      simp only [if_neg c0]
      rw [if_neg (show ¬ Int32.ofInt 1 = 0 from by decide), if_neg c, if_pos hv]
      refine ⟨s', ?_, ?_, e3, fun z => absurd z (by omega)⟩
      · rw [if_neg (show ¬ 0 ≤ -1 - s.1 by omega)]; exact e1
      · unfold vEnd; rw [if_neg (show ¬ 0 ≤ -1 - s.1 by omega), e2]; omega
theorem Vr_str {m : Nat} {g : ax_Hp} {K : Nat → Nat} {v : Int → Int} {vr sc : Nat} {val : Bool} {s : cS} {e : Int} (h : kOk K) (X : vrX g K vr sc val) (V : cvX g K v) (q0 : 0 ≤ s.1) (q1 : s.1 ≤ 160) (r : bRm K s (161 - s.1)) (he : e = if v s.1 = 34 then spStr v 12 (s.1 + 1) else -1 - s.1) : ∃ s', ax_F (m + 2) 50 [ax_A (some vr)] (cH g K s) = some (.inl (some (ax_I (Int32.ofInt (if 0 ≤ e then 1 else 0)))), cH g K s') ∧ vEnd s' e ∧ mkE s s' ∧ (0 ≤ e → bsE K s s' ((2 * (e - s.1 - 2)) :: spCh v (s.1 + 1) (e - s.1 - 2).toNat)) := by
  have k7 := h.2.1
  rw [ValueReader_readString_F]
  unfold ValueReader_readString_b
  rw [vr_gr0 X, Option.bind_some, cu_on, show (34 : Int32) = Int32.ofInt 34 from rfl, pl_ci (Cu_take h V q0 (by omega) (by decide) (by decide))]
  have b := pk_b V q0
  by_cases c : v s.1 = 34
  · rw [if_pos c] at he
    simp only [if_pos c]
    have hq7 := b.2.2.2.2.2 (by omega)
    rw [if_neg (show ¬ Int32.ofInt 1 = 0 from by decide), vr_gr2 X, Option.bind_some, ro_on h, pl_ci (Ro_size h), vr_gr2 X, Option.bind_some, ro_on h, zi_0]
    obtain ⟨s1, y, a1, a2, a3, a4⟩ := Ro_addE (m := m) (g := g) (s := cAt s (s.1 + 1)) (x := 0) h ⟨r.1, r.2.1, fun w => by have := r.2.2 w; show s.2.2.2.2.1 + 1 ≤ _; omega⟩
    have r1 := bsE_rm (n := 161 - s.1) a4 r
    rw [pl_ci a1, he]
    rw [cAt_1] at a2
    have := Vr_strL (m := m) (g := g) (s0 := s) (q := s.1) h X V q0 ⟨r.1, r.2.1, fun w => by have := r.2.2 w; omega⟩ 12 s1 0 ax_fuel (by rw [a2]; omega) (by rw [a2]; omega) (by omega) a3 a4 (by rw [a2, show 161 - (s.1 + 1) = 161 - s.1 - ((1 : Nat) : Int) by omega]; exact r1) (by unfold ax_fuel; omega)
    rw [a2] at this
    exact this
  · rw [if_neg c] at he
    simp only [if_neg c]
    rw [if_pos (show Int32.ofInt 0 = 0 from rfl)]
    refine ⟨s, ?_, ?_, mkE_refl s, fun z => absurd z (by omega)⟩
    · rw [if_neg (by omega)]; exact za_rz (v := 0) (Or.inl rfl)
    · unfold vEnd; rw [if_neg (by omega)]; omega
theorem De_small {m : Nat} {h : ax_Hp} {x : Int} (x0 : -1 ≤ x) (x1 : x < 128) : ax_F (m + 1) 33 [ax_I (Int32.ofInt x)] h = some (.inl (some (ax_I (Int32.ofInt (if isSm x then 1 else 0)))), h) := by
  rw [Desk_isSmallLetter_F]
  unfold Desk_isSmallLetter_b
  simp (disch := omega) only [show (97 : Int32) = Int32.ofInt 97 from rfl, show (122 : Int32) = Int32.ofInt 122 from rfl, zi_lt]
  by_cases c1 : x < 97
  · rw [if_pos c1, if_neg (show ¬ isSm x from fun z => by omega)]; exact za_rz (v := 0) (Or.inl rfl)
  · rw [if_neg c1]
    by_cases c2 : 122 < x
    · rw [if_pos c2, if_neg (show ¬ isSm x from fun z => by omega)]; exact za_rz (v := 0) (Or.inl rfl)
    · rw [if_neg c2, if_pos (show isSm x from ⟨by omega, by omega⟩)]; exact za_rz (v := 1) (Or.inr rfl)
/-- symbols differ -/
theorem spSy_d {c : Int → Int} {p : Int} : ∀ f k : Nat, (∀ i j : Nat, i < j → j < k → c (p + i) ≠ c (p + j)) → ∀ i j : Nat, i < j → j < spSy c p f k → c (p + i) ≠ c (p + j)
  | 0, k, h => h
  | f + 1, k, h => by
    rw [spSy_s]
    by_cases e : isSm (c (p + k)) ∧ ∀ j : Nat, j < k → c (p + j) ≠ c (p + k)
    · rw [if_pos e]
      refine spSy_d f (k + 1) (fun i j hij hj => ?_)
      by_cases z : j = k
      · rw [z]; exact e.2 i (by omega)
      · exact h i j hij (by omega)
    · rw [if_neg e]; exact h
theorem spIx_e {c : Int → Int} {p x : Int} : ∀ (k j : Nat), j < k → c (p + j) = x → (∀ i : Nat, j < i → i < k → c (p + i) ≠ x) → spIx c p x k = j
  | 0, j, hj, _, _ => absurd hj (by omega)
  | k + 1, j, hj, e, hn => by
    rw [spIx_s]
    by_cases z : j = k
    · rw [← z, if_pos e]
    · rw [if_neg (hn k (by omega) (by omega))]
      exact spIx_e k j (by omega) e (fun i h1 h2 => hn i h1 (by omega))
/-- an E that is read stands: behind its symbols no letter -/
theorem spE_in {c : Int → Int} {t : Int} (t0 : 0 ≤ t) (hE : 0 ≤ spE c t) : c (t + 1) = 40 ∧ 0 < spSy c (t + 2) 8 0 ∧ (c (t + 2 + spSy c (t + 2) 8 0) = 61 ∨ c (t + 2 + spSy c (t + 2) 8 0) = 41) := by
  unfold spE at hE
  by_cases c1 : c (t + 1) = 40
  · rw [if_pos c1] at hE
    by_cases c2 : spSy c (t + 2) 8 0 = 0
    · rw [if_pos c2] at hE; omega
    · rw [if_neg c2] at hE
      refine ⟨c1, by omega, ?_⟩
      by_cases c3 : c (t + 2 + spSy c (t + 2) 8 0) = 61
      · exact Or.inl c3
      · rw [if_neg c3] at hE
        by_cases c4 : c (t + 2 + spSy c (t + 2) 8 0) = 41
        · exact Or.inr c4
        · rw [if_neg c4] at hE; omega
  · rw [if_neg c1] at hE; omega
theorem Sc_symL {m : Nat} {g : ax_Hp} {K : Nat → Nat} {sc tr ti l : Nat} {c : Int → Int} {s : cS} {t x : Int} (S : csX g K sc tr ti l c) (t0 : 0 ≤ t) (t1 : t ≤ 160) (hE : 0 ≤ spE c t) (x0 : -1 ≤ x) (x1 : x < 128) : ∀ (f j fuel : Nat), j + f = 8 → j ≤ spSy c (t + 2) 8 0 → (∀ i : Nat, i < j → c (t + 2 + i) ≠ x) → f < fuel → Schema_symbolNumber_lp2 (ax_F (m + 1)) fuel (some sc) (Int32.ofInt t) (Int32.ofInt x) (Int32.ofInt j) (cH g K s) = some (.inl (some (ax_I (Int32.ofInt (spIx c (t + 2) x (spSy c (t + 2) 8 0))))), cH g K s) := by
  have k8 := (spSy_k (c := c) (p := t + 2) 8 0).2.1
  have ksm := (spSy_k (c := c) (p := t + 2) 8 0).2.2
  have kd := spSy_d (c := c) (p := t + 2) 8 0 (fun i j _ hj => absurd hj (Nat.not_lt_zero _))
  obtain ⟨e1, e2, e3⟩ := spE_in t0 hE
  generalize spSy c (t + 2) 8 0 = k at *
  intro f
  induction f with
  | zero =>
    intro j fuel hj hjk hn hf
    obtain ⟨fuel, rfl⟩ : ∃ g, fuel = g + 1 := ⟨fuel - 1, by omega⟩
    have hstep : Schema_symbolNumber_lp2 (ax_F (m + 1)) (fuel + 1) = Schema_symbolNumber_bd2 (ax_F (m + 1)) (Schema_symbolNumber_lp2 (ax_F (m + 1)) fuel) := rfl
    rw [hstep, spIx_n k (fun i hi => hn i (by omega))]
    unfold Schema_symbolNumber_bd2
    rw [if_pos (show (8 : Int32) ≤ Int32.ofInt j from by rw [show (8 : Int32) = Int32.ofInt 8 from rfl, zi_le (by omega) (by omega) (by omega) (by omega)]; omega)]
    rfl
  | succ f ih =>
    intro j fuel hj hjk hn hf
    obtain ⟨fuel, rfl⟩ : ∃ g, fuel = g + 1 := ⟨fuel - 1, by omega⟩
    have hstep : Schema_symbolNumber_lp2 (ax_F (m + 1)) (fuel + 1) = Schema_symbolNumber_bd2 (ax_F (m + 1)) (Schema_symbolNumber_lp2 (ax_F (m + 1)) fuel) := rfl
    obtain ⟨ci, fc, s1, s2, s3, s4, s5, s6⟩ := S.2.2.2.2.2.2.2
    have cb := s6 (t + 2 + j)
    have inl : c (t + 2 + j) ≠ 0 → t + 2 + j < l := fun z => Classical.byContradiction fun y => z (s5 _ (by omega))
    rw [hstep]
    unfold Schema_symbolNumber_bd2
    rw [if_neg (show ¬ (8 : Int32) ≤ Int32.ofInt j from by rw [show (8 : Int32) = Int32.ofInt 8 from rfl, zi_le (by omega) (by omega) (by omega) (by omega)]; omega), pl_gr ((cH_o S.2.1).trans S.1) (show _ = some (ax_A (some tr)) from rfl), Option.bind_some, pl_on ((cH_o S.2.2.2.1).trans S.2.2.1), show (2 : Int32) = Int32.ofInt 2 from rfl, zi_add, zi_add, pl_ci (Sc_at0 S (by omega) (by omega))]
    by_cases z : j = k
    · have : t + 2 + (j : Int) < l := inl (by rw [z]; omega)
      rw [if_pos this, pl_ci (De_small (by omega) (by omega)), if_neg (show ¬ isSm (c (t + 2 + j)) from fun y => by rw [z] at y; omega), if_pos (show Int32.ofInt 0 = 0 from rfl), spIx_n k (fun i hi => hn i (by omega))]
      rfl
    · have sm := ksm j (by omega) (by omega)
      have : t + 2 + (j : Int) < l := inl (by omega)
      rw [if_pos this, pl_ci (De_small (by omega) (by omega)), if_pos sm, if_neg (show ¬ Int32.ofInt 1 = 0 from by decide), pl_gr ((cH_o S.2.1).trans S.1) (show _ = some (ax_A (some tr)) from rfl), Option.bind_some, pl_on ((cH_o S.2.2.2.1).trans S.2.2.1), pl_ci (Sc_at0 S (by omega) (by omega)), if_pos this]
      by_cases w : c (t + 2 + j) = x
      · rw [if_pos (show Int32.ofInt (c (t + 2 + j)) = Int32.ofInt x from by rw [w]), spIx_e k j (by omega) w (fun i h1 h2 y => kd j i h1 h2 (by rw [w, y]))]
        rfl
      · rw [if_neg (show ¬ Int32.ofInt (c (t + 2 + j)) = Int32.ofInt x from by rw [zi_eq (by omega) (by omega) (by omega) (by omega)]; exact w), show (1 : Int32) = Int32.ofInt 1 from rfl, zi_add]
        exact ih (j + 1) fuel (by omega) (by omega) (fun i hi => by
          by_cases y : i = j
          · rw [y]; exact w
          · exact hn i (by omega)) (by omega)
theorem Sc_sym {m : Nat} {g : ax_Hp} {K : Nat → Nat} {sc tr ti l : Nat} {c : Int → Int} {s : cS} {t x : Int} (S : csX g K sc tr ti l c) (t0 : 0 ≤ t) (t1 : t ≤ 160) (hE : 0 ≤ spE c t) (x0 : -1 ≤ x) (x1 : x < 128) : ax_F (m + 2) 55 [ax_A (some sc), ax_I (Int32.ofInt t), ax_I (Int32.ofInt x)] (cH g K s) = some (.inl (some (ax_I (Int32.ofInt (spIx c (t + 2) x (spSy c (t + 2) 8 0))))), cH g K s) := by
  rw [Schema_symbolNumber_F]
  unfold Schema_symbolNumber_b
  exact Sc_symL S t0 t1 hE x0 x1 8 0 ax_fuel (by omega) (by omega) (fun i hi => absurd hi (Nat.not_lt_zero _)) (by unfold ax_fuel; omega)
theorem Vr_sym {m : Nat} {g : ax_Hp} {K : Nat → Nat} {v : Int → Int} {vr sc tr ti l : Nat} {c : Int → Int} {val : Bool} {s : cS} {t ix : Int} (h : kOk K) (X : vrX g K vr sc val) (V : cvX g K v) (S : csX g K sc tr ti l c) (q0 : 0 ≤ s.1) (q1 : s.1 ≤ 160) (t0 : 0 ≤ t) (t1 : t ≤ 160) (hE : 0 ≤ spE c t) (r : bRm K s 1) (hi : ix = spIx c (t + 2) (v s.1) (spSy c (t + 2) 8 0)) : ∃ s', ax_F (m + 3) 54 [ax_A (some vr), ax_I (Int32.ofInt t)] (cH g K s) = some (.inl (some (ax_I (Int32.ofInt (if ix < 0 then 0 else 1)))), cH g K s') ∧ s'.1 = (if ix < 0 then s.1 else s.1 + 1) ∧ mkE s s' ∧ (0 ≤ ix → bsE K s s' [2 * ix]) := by
  have b := pk_b V q0
  have ksm := (spSy_k (c := c) (p := t + 2) 8 0).2.2
  have k8 := (spSy_k (c := c) (p := t + 2) 8 0).2.1
  have rg := spIx_r (c := c) (p := t + 2) (x := v s.1) (spSy c (t + 2) 8 0)
  have hx : spIx c (t + 2) (pk K v s.1) (spSy c (t + 2) 8 0) = ix := by
    rw [hi]
    by_cases z : v s.1 = 0
    · rw [b.2.2.2.1 z, z, spIx_n _ (fun j hj y => by have := ksm j (by omega) hj; omega), spIx_n _ (fun j hj y => by have := ksm j (by omega) hj; omega)]
    · rw [b.2.2.1 z]
  rw [ValueReader_readSymbol_F]
  unfold ValueReader_readSymbol_b
  rw [vr_gr1 X, Option.bind_some, vr_gr0 X, Option.bind_some, cu_on, pl_ci (Cu_pk h V q0 (by omega)), sc_on S, pl_ci (Sc_sym S t0 t1 hE b.1 b.2.1), hx]
  by_cases z : ix < 0
  · rw [if_pos z, if_pos (show Int32.ofInt ix = -1 from by rw [show ix = -1 by omega]; rfl)]
    exact ⟨s, za_rz (v := 0) (Or.inl rfl), by rw [if_pos z], mkE_refl s, fun w => absurd w (by omega)⟩
  · have hv : v s.1 ≠ 0 := fun y => by
      obtain ⟨j, j1, j2⟩ := spIx_c (c := c) (p := t + 2) (x := v s.1) (spSy c (t + 2) 8 0) (by omega)
      have := ksm j (by omega) j1
      omega
    rw [if_neg z, if_neg (show ¬ Int32.ofInt ix = -1 from by rw [show (-1 : Int32) = Int32.ofInt (-1) from rfl, zi_eq (by omega) (by omega) (by omega) (by omega)]; omega), vr_gr0 X, Option.bind_some, cu_on, pl_cv (Cu_stepN h V q0 (by omega) hv), vr_gr2 X, Option.bind_some, ro_on h, show (2 : Int32) = Int32.ofInt 2 from rfl, zi_mul]
    obtain ⟨s1, y, a1, a2, a3, a4⟩ := Ro_addE (m := m + 1) (g := g) (s := cAt s (s.1 + 1)) (x := 2 * ix) h r
    rw [pl_ci a1]
    exact ⟨s1, za_rz (v := 1) (Or.inr rfl), by rw [a2, if_neg z]; rfl, a3, fun _ => a4⟩
