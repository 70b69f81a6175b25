def fitK (A : Nat → Nat → Int) (c d : Int → Int) (N0 N1 : Int) (W : Nat → Int64) (r k : Int) : Prop := ∀ (D1 : Nat) (t : Int) (D2 : Nat) (u : Int) (n : Nat), gN A c N0 D1 r t → gN A d (120 + N1) D2 (120 + k) u → D1 + D2 + 1 ≤ n → fbt W r k = crd c d n D1 D2 t u
theorem gN_k {A : Nat → Nat → Int} {c : Int → Int} {hi : Int} {D : Nat} {n t : Int} (g : gN A c hi D n t) : 0 ≤ n ∧ n < hi ∧ lfN A c n t := by
  have := spN_1 c D t
  have l := NdS_lf g.1
  have := g.2.1
  exact ⟨l.1, by omega, l⟩
theorem gN_sd {A : Nat → Nat → Int} {c : Int → Int} {hi : Int} {D : Nat} {n t : Int} (cb : ∀ p, 0 ≤ c p ∧ c p < 128) (g : gN A c hi D n t) (hE : c t = 69) : decide (0 ≤ A 23 n.toNat) = decide (spSd c t ≠ -1) := by
  obtain ⟨_, _, e3, _⟩ := (gN_k g).2.2.2.2.2.2 hE
  have hT := g.2.2.2
  rw [spTy_E1 hE] at hT
  have t0 := g.2.2.1
  rw [e3]
  unfold spSd
  by_cases z : c (t + 2 + spSy c (t + 2) 8 0) = 61
  · rw [if_pos z, if_pos z]
    have a := spE_in t0 hT
    have : 0 ≤ spIx c (t + 2) (c (t + 2 + spSy c (t + 2) 8 0 + 1)) (spSy c (t + 2) 8 0) := by
      unfold spE at hT
      rw [if_pos a.1, if_neg (by omega), if_pos z] at hT
      by_cases y : spIx c (t + 2) (c (t + 2 + spSy c (t + 2) 8 0 + 1)) (spSy c (t + 2) 8 0) < 0
      · rw [if_pos y] at hT; omega
      · omega
    have b := cb (t + 2 + spSy c (t + 2) 8 0 + 1)
    rw [decide_eq_true this, decide_eq_true (by omega)]
  · rw [if_neg z, if_neg z]; rfl
theorem all_or {p : Nat → Bool} {b : Bool} (l : List Nat) : l.all (fun j => b || p j) = (b || l.all p) := by
  induction l with
  | nil => rw [List.all_nil, List.all_nil, Bool.or_true]
  | cons x l ih => rw [List.all_cons, List.all_cons, ih]; cases b <;> cases p x <;> rfl
theorem gN_nd {N : Int} {A : Nat → Nat → Int} {c : Int → Int} {hi : Int} {D : Nat} {n t : Int} (hN : 0 ≤ N) (hc : ∀ p, N ≤ p → c p = 0) (g : gN A c hi D n t) (hR : c t = 82) : (spPt c D t).Pairwise (fun x y => c x ≠ c y) ∧ ∀ x ∈ spPt c D t, 0 ≤ x := by
  cases D with
  | zero => exact absurd hR g.1.2.2.2
  | succ D =>
    obtain ⟨_, b, e⟩ := spTy_R1 g.2.2.1 g.2.2.2 hR
    have hT := g.2.2.2
    rw [b] at hT
    have t0 := g.2.2.1
    obtain ⟨_, _, p3⟩ := spPt_R hN hc t0 g.2.2.2 hR
    refine ⟨?_, fun x hx => by have := (p3 x hx).1; omega⟩
    rw [e]
    exact (spFl_nd 6 [] (t + 2) (by omega) hT).2
/-- readsNode answers as the text says, if fit is right for the pairs behind -/
theorem Model_readsNode_z {m : Nat} {h : ax_Hp} {s : mS} {c d : Int → Int} {N0 N1 r k t u : Int} {D1 D2 n : Nat} (T0 : isT s 0 c) (T1 : isT s 1 d) (n0 : N0 ≤ 120) (n1 : N1 ≤ 120) (g1 : gN s.2.2.1 c N0 D1 r t) (g2 : gN s.2.2.1 d (120 + N1) D2 (120 + k) u) (k0 : 0 ≤ k) (hn : D1 + D2 ≤ n) (F : ∀ r' k', 0 ≤ r' → r' < N0 → 0 ≤ k' → k' < N1 → (r < r' ∨ (r' = r ∧ k < k')) → fitK s.2.2.1 c d N0 N1 s.2.2.2 r' k') : ax_F (m + 2) 182 [ax_A (some 24), ax_I (Int32.ofInt r), ax_I (Int32.ofInt (120 + k))] (mH h s) = some (.inl (some (ax_I (Int32.ofInt (bI (crd c d (n + 1) D1 D2 t u))))), mH h s) := by
  obtain ⟨r0, r1, L1⟩ := gN_k g1
  obtain ⟨w0, w1, L2⟩ := gN_k g2
  have hc := T0.2.2.2.1
  have hd := T1.2.2.2.1
  have cb := T0.2.2.2.2
  have db := T1.2.2.2.2
  have ct := cb t
  have du := db u
  have k1 := L1.2.2.2.1
  have k2 := L2.2.2.2.1
  have z0 := T0.1
  have z1 := T1.1
  have tc := spTy_c D1 t g1.2.2.1 g1.2.2.2
  have uc := spTy_c D2 u g2.2.2.1 g2.2.2.2
  rw [Model_readsNode_F]
  unfold Model_readsNode_b
  have ldr : ax_ldi (mH h s) (some 36) 3 (Int32.ofInt r) = some (Int32.ofInt (c t)) := by rw [mld_17 h s _ r0 (by omega), k1]
  have ldw : ax_ldi (mH h s) (some 36) 3 (Int32.ofInt (120 + k)) = some (Int32.ofInt (d u)) := by rw [mld_17 h s _ w0 (by omega), k2]
  have chr := mld_18 h s r r0 (by omega)
  have chw := mld_18 h s (120 + k) w0 (by omega)
  simp only [mgr_17, mgr_18, Option.bind_some, ldr, ldw, chr, chw]
  rw [crd_s]
  by_cases c1 : d u = 85
  · obtain ⟨D', hD, a1, a2, a3, a4⟩ := gN_U hd (by omega) g2 c1
    rw [if_pos c1, if_pos (show Int32.ofInt (d u) = 85 from by rw [c1]; rfl)  , show D2 - 1 = D' by omega]
    have := Rn_21 (m := m) (h := h) (s := s) (q := fun b => crd c d n D1 D' t b) (r := r) r0 (by omega) (fun j x hj => by
      obtain ⟨j1, j2, _⟩ := gN_k hj.2
      refine ⟨by omega, by omega, F r (j - 120) r0 r1 (by omega) (by omega) (Or.inr ⟨rfl, by have := hj.1; omega⟩) D1 t D' x n g1 (by rw [show 120 + (j - 120) = j by omega]; exact hj.2) (by omega)⟩) (spPt d D2 u) _ true ax_fuel a4 (by unfold ax_fuel; omega)
    rw [Bool.true_and] at this
    exact this
  · rw [if_neg c1, if_neg (show ¬ Int32.ofInt (d u) = 85 from by rw [show (85 : Int32) = Int32.ofInt 85 from rfl, zi_eq (by omega) (by omega) (by omega) (by omega)]; exact c1)]
    by_cases c2 : c t = 85
    · obtain ⟨D', hD, a1, a2, a3, a4⟩ := gN_U hc (by omega) g1 c2
      rw [if_pos c2, if_pos (show Int32.ofInt (c t) = 85 from by rw [c2]; rfl), show D1 - 1 = D' by omega]
      have := Rn_82 (m := m) (h := h) (s := s) (q := fun b => crd c d n D' D2 b u) (k := k) k0 (by omega) (fun j x hj => by
        obtain ⟨j1, j2, _⟩ := gN_k hj.2
        exact ⟨by omega, by omega, F j k (by omega) (by omega) k0 (by omega) (Or.inl hj.1) D' x D2 u n hj.2 g2 (by omega)⟩) (spPt c D1 t) _ false ax_fuel a4 (by unfold ax_fuel; omega)
      rw [Bool.false_or] at this
      exact this
    · rw [if_neg c2, if_neg (show ¬ Int32.ofInt (c t) = 85 from by rw [show (85 : Int32) = Int32.ofInt 85 from rfl, zi_eq (by omega) (by omega) (by omega) (by omega)]; exact c2)]
      by_cases c3 : c t = d u
      · rw [if_pos c3, if_pos (show Int32.ofInt (c t) = Int32.ofInt (d u) from by rw [c3])]
        by_cases cE : d u = 69
        · have cE' : c t = 69 := by omega
          rw [if_neg (show ¬ d u = 65 by omega), if_pos cE, if_pos (show Int32.ofInt (c t) = 69 from by rw [cE']; rfl), ← gN_sd cb g1 cE', ← all_or, List.range_eq_range']
          have := Rn_181 (m := m) (h := h) T0 T1 L1 L2 cE' cE rfl (spSy d (u + 2) 8 0) 0 true ax_fuel (by omega) (by have := (spSy_k (c := d) (p := u + 2) 8 0).2.1; unfold ax_fuel; omega)
          rw [Bool.true_and] at this
          exact this
        · rw [if_neg (show ¬ d u = 69 from cE), if_neg (show ¬ Int32.ofInt (c t) = 69 from by rw [show (69 : Int32) = Int32.ofInt 69 from rfl, zi_eq (by omega) (by omega) (by omega) (by omega)]; omega)]
          by_cases cA : d u = 65
          · have cA' : c t = 65 := by omega
            obtain ⟨Da, hDa, a1, a2⟩ := gN_A g1 cA'
            obtain ⟨Db, hDb, b1, b2⟩ := gN_A g2 cA
            obtain ⟨p1, p2, _⟩ := gN_k a2
            obtain ⟨q1, q2, _⟩ := gN_k b2
            have kn := Model_knows_z (m := m) (h := h) (s := s) (r := r + 1) (k := k + 1) (by omega) (by omega) (by omega) (by omega)
            rw [F (r + 1) (k + 1) (by omega) (by omega) (by omega) (by omega) (Or.inl (by omega)) Da (t + 1) Db (u + 1) n a2 (by rw [show 120 + (k + 1) = 120 + k + 1 by omega]; exact b2) (by omega), show 120 + (k + 1) = 120 + k + 1 by omega] at kn
            rw [if_pos cA, if_pos (show Int32.ofInt (c t) = 65 from by rw [cA']; rfl), a1, b1, mS_on, pl_ci kn, show D1 - 1 = Da by omega, show D2 - 1 = Db by omega]
            exact za_rz (bI_01 _)
          · rw [if_neg cA, if_neg (show ¬ Int32.ofInt (c t) = 65 from by rw [show (65 : Int32) = Int32.ofInt 65 from rfl, zi_eq (by omega) (by omega) (by omega) (by omega)]; omega)]
            by_cases cR : d u = 82
            · have cR' : c t = 82 := by omega
              obtain ⟨Da, hDa, a1, a2, a3, a4⟩ := gN_R z0 hc (by omega) g1 cR'
              obtain ⟨Db, hDb, b1, b2, b3, b4⟩ := gN_R z1 hd (by omega) g2 cR
              obtain ⟨nd, nn⟩ := gN_nd z1 hd g2 cR
              rw [if_pos cR, if_pos (show Int32.ofInt (c t) = 82 from by rw [cR']; rfl), show D1 - 1 = Da by omega, show D2 - 1 = Db by omega]
              have := Rn_297 (m := m) (h := h) (s := s) (c := c) (d := d) (w := 120 + k) (gl := spPt d D2 u) (cr := fun x y => crd c d n Da Db (x + 2) (y + 2)) (gv := spGv c Da) w0 (by omega) cb (fun j x hj => by
                obtain ⟨j1, j2, _⟩ := gN_k hj.2.2.2
                have tg := spTy_gt hc Da (x + 2) hj.2.2.2.2.2.1 hj.2.2.2.2.2.2
                have := T0.2.1
                refine ⟨by omega, by omega, hj.2.1, hj.2.2.1, ?_, ?_⟩
                · have := hj.2.2.2.2.2.2; unfold spGv; split <;> omega
                · have := hj.2.2.2.2.2.2; unfold spGv; split <;> omega) (fun j x hj => by
                obtain ⟨j1, j2, _⟩ := gN_k hj.2.2.2
                exact ⟨by have := hj.1; omega, by omega, hj.2.1, db x⟩) (fun f x g y hf hg => by
                obtain ⟨j1, j2, _⟩ := gN_k hf.2.2.2
                obtain ⟨i1, i2, _⟩ := gN_k hg.2.2.2
                have := hg.1
                exact F f (g - 120) (by omega) (by omega) (by omega) (by omega) (Or.inl hf.1) Da (x + 2) Db (y + 2) n hf.2.2.2 (by rw [show 120 + (g - 120) = g by omega]; exact hg.2.2.2) (by omega)) b4 b2 nd nn (spPt c D1 t) _ true ax_fuel a4 (by unfold ax_fuel; omega)
              rw [Bool.true_and] at this
              exact this
            · rw [if_neg cR, if_neg (show ¬ Int32.ofInt (c t) = 82 from by rw [show (82 : Int32) = Int32.ofInt 82 from rfl, zi_eq (by omega) (by omega) (by omega) (by omega)]; omega)]
              exact za_rz (v := 1) (Or.inr rfl)
      · rw [if_neg c3, if_neg (show ¬ Int32.ofInt (c t) = Int32.ofInt (d u) from by rw [zi_eq (by omega) (by omega) (by omega) (by omega)]; exact c3)]
        by_cases cL : c t = 76
        · rw [if_pos (show Int32.ofInt (c t) = 76 from by rw [cL]; rfl)]
          by_cases cI : d u = 73
          · rw [if_pos (show Int32.ofInt (d u) = 73 from by rw [cI]; rfl), decide_eq_true ⟨cI, cL⟩]
            exact za_rz (v := 1) (Or.inr rfl)
          · rw [if_neg (show ¬ Int32.ofInt (d u) = 73 from by rw [show (73 : Int32) = Int32.ofInt 73 from rfl, zi_eq (by omega) (by omega) (by omega) (by omega)]; exact cI), decide_eq_false (fun z => cI z.1)]
            exact za_rz (v := 0) (Or.inl rfl)
        · rw [if_neg (show ¬ Int32.ofInt (c t) = 76 from by rw [show (76 : Int32) = Int32.ofInt 76 from rfl, zi_eq (by omega) (by omega) (by omega) (by omega)]; exact cL), decide_eq_false (fun z => cL z.2)]
          exact za_rz (v := 0) (Or.inl rfl)
