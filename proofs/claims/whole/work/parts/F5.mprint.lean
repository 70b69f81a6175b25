theorem spBt_s (c mk : Int → Int) (p : Int) (n : Nat) : spBt c mk p (n + 1) = if mk p = 0 then c p :: spBt c mk (p + 1) n else spBt c mk (p + 1) n := rfl
theorem spBt_0 {c mk : Int → Int} : ∀ (n : Nat) (p : Int), (∀ i, p ≤ i → i < p + n → mk i = 0) → spBt c mk p n = spCh c p n
  | 0, _, _ => rfl
  | n + 1, p, h => by rw [spBt_s, spCh_s, if_pos (h p (by omega) (by omega)), spBt_0 n (p + 1) (fun i a b => h i (by omega) (by omega))]
theorem spBt_c {c mk mk' : Int → Int} : ∀ (n : Nat) (p : Int), (∀ i, p ≤ i → i < p + n → (mk i = 0 ↔ mk' i = 0)) → spBt c mk p n = spBt c mk' p n
  | 0, _, _ => rfl
  | n + 1, p, h => by
    rw [spBt_s, spBt_s, spBt_c n (p + 1) (fun i a b => h i (by omega) (by omega))]
    by_cases q : mk p = 0
    · rw [if_pos q, if_pos ((h p (by omega) (by omega)).mp q)]
    · rw [if_neg q, if_neg (fun z => q ((h p (by omega) (by omega)).mpr z))]
theorem Model_draft_l {m : Nat} {h : ax_Hp} {c mk : Int → Int} {b : Int32} {n : Int} (n1 : n ≤ 160) : ∀ (k : Nat) (s : mS) (i : Int) (fuel : Nat), 0 ≤ i → i + k = n → s.2.2.1 15 0 = n → (∀ p : Int, 0 ≤ p → p < n → s.2.2.1 14 p.toNat = c p) → (∀ p : Int, 0 ≤ p → p < n → (b = 0 → mk p = 0) ∧ (¬ b = 0 → mk p = s.2.2.1 25 p.toNat) ∧ (s.2.2.1 25 p.toNat = 0 ∨ s.2.2.1 25 p.toNat = 1)) → 0 ≤ s.1 7 → s.1 7 + k ≤ 1000000 → k < fuel → ∃ s', Model_draftText_lp13 (ax_F (m + 1)) fuel (some 24) b (Int32.ofInt i) (mH h s) = some (.inl none, mH h s') ∧ syF s s' ∧ said s s' (spBt c mk i k)
  | 0, s, i, fuel, i0, hi, h15, ht, hb, d0, d1, hf => by
    obtain ⟨fuel, rfl⟩ : ∃ g, fuel = g + 1 := ⟨fuel - 1, by omega⟩
    have hstep : Model_draftText_lp13 (ax_F (m + 1)) (fuel + 1) = Model_draftText_bd13 (ax_F (m + 1)) (Model_draftText_lp13 (ax_F (m + 1)) fuel) := rfl
    refine ⟨s, ?_, syF_refl s, said_0 rfl rfl⟩
    rw [hstep]
    unfold Model_draftText_bd13
    rw [mgr_15, Option.bind_some, zi_0, mld_15 _ _ _ (by omega) (by omega), Option.bind_some, show s.2.2.1 15 (0 : Int).toNat = n from h15, if_pos (show Int32.ofInt n ≤ Int32.ofInt i from by rw [zi_le (by omega) (by omega) (by omega) (by omega)]; omega)]
    rfl
  | k + 1, s, i, fuel, i0, hi, h15, ht, hb, d0, d1, hf => by
    obtain ⟨fuel, rfl⟩ : ∃ g, fuel = g + 1 := ⟨fuel - 1, by omega⟩
    have hstep : Model_draftText_lp13 (ax_F (m + 1)) (fuel + 1) = Model_draftText_bd13 (ax_F (m + 1)) (Model_draftText_lp13 (ax_F (m + 1)) fuel) := rfl
    have bd : Model_draftText_lp13 (ax_F (m + 1)) (fuel + 1) (some 24) b (Int32.ofInt i) (mH h s) = if mk i = 0 then Model_draftText_jn36 (ax_F (m + 1)) (Model_draftText_lp13 (ax_F (m + 1)) fuel) (some 24) b (Int32.ofInt i) (mH h s) else Model_draftText_jn46 (ax_F (m + 1)) (Model_draftText_lp13 (ax_F (m + 1)) fuel) (some 24) b (Int32.ofInt i) (mH h s) := by
      obtain ⟨b1, b2, b3⟩ := hb i i0 (by omega)
      rw [hstep]
      unfold Model_draftText_bd13
      rw [mgr_15, Option.bind_some, show ax_ldi (mH h s) (some 34) 1 0 = some (Int32.ofInt (s.2.2.1 15 (0 : Int).toNat)) from mld_15 h s 0 (by omega) (by omega), Option.bind_some, show s.2.2.1 15 (0 : Int).toNat = n from h15, if_neg (show ¬ Int32.ofInt n ≤ Int32.ofInt i from by rw [zi_le (by omega) (by omega) (by omega) (by omega)]; omega)]
      by_cases q : b = 0
      · rw [if_pos q, if_pos (b1 q)]
      · rw [if_neg q, mgr_25, Option.bind_some, mld_25 _ _ _ i0 (by omega), Option.bind_some, b2 q]
        rcases b3 with e | e
        · rw [e, if_pos (show Int32.ofInt 0 = 0 from rfl), if_pos rfl]
        · rw [e, if_neg (show ¬ Int32.ofInt 1 = 0 from by decide), if_neg (by decide)]
    rw [bd, spBt_s]
    by_cases q : mk i = 0
    · rw [if_pos q, if_pos q]
      obtain ⟨s1, e1, f1, g1, -⟩ := Model_say_z (n := m) (h := h) (s := s) (x := c i) d0 (by omega)
      have z7 := said_1 g1
      rw [List.length_singleton] at z7
      obtain ⟨s2, e2, f2, g2⟩ := Model_draft_l (m := m) (h := h) (c := c) (mk := mk) (b := b) n1 k s1 (i + 1) fuel (by omega) (by omega) (by rw [f1.2.1 15 (by decide)]; exact h15) (by rw [f1.2.1 14 (by decide)]; exact ht) (by rw [f1.2.1 25 (by decide)]; exact hb) (by omega) (by omega) (by omega)
      refine ⟨s2, ?_, f1.trans f2, g1.trans g2⟩
      unfold Model_draftText_jn36 Model_draftText_jn46
      rw [mgr_14, Option.bind_some, mld_14 _ _ _ i0 (by omega), Option.bind_some, ht i i0 (by omega), mS_on, pl_cv e1, show (1 : Int32) = Int32.ofInt 1 from rfl, zi_add]
      exact e2
    · rw [if_neg q, if_neg q]
      obtain ⟨s2, e2, f2, g2⟩ := Model_draft_l (m := m) (h := h) (c := c) (mk := mk) (b := b) n1 k s (i + 1) fuel (by omega) (by omega) h15 ht hb d0 (by omega) (by omega)
      refine ⟨s2, ?_, f2, g2⟩
      unfold Model_draftText_jn46
      rw [show (1 : Int32) = Int32.ofInt 1 from rfl, zi_add]
      exact e2
/-- what is shown of the text c: all of it, or all but the defaults -/
def shL (c : Int → Int) (n : Int) (b : Int32) (L : List Int) : Prop := ∃ mk : Int → Int, L = spBt c mk 0 n.toNat ∧ ∀ p : Int, 0 ≤ p → p < n → (b = 0 → mk p = 0) ∧ (¬ b = 0 → (mk p ≠ 0 ↔ spX c 6 0 p))
theorem shL_u {c : Int → Int} {n : Int} {b : Int32} {L K : List Int} (h1 : shL c n b L) (h2 : shL c n b K) : L = K := by
  obtain ⟨m1, e1, h1⟩ := h1
  obtain ⟨m2, e2, h2⟩ := h2
  rw [e1, e2]
  refine spBt_c _ _ (fun i a d => ?_)
  have x1 := h1 i a (by omega)
  have x2 := h2 i a (by omega)
  by_cases q : b = 0
  · rw [x1.1 q, x2.1 q]
  · have y1 := x1.2 q
    have y2 := x2.2 q
    exact ⟨fun z => Decidable.byContradiction fun w => y1.mpr (y2.mp w) z, fun z => Decidable.byContradiction fun w => y2.mpr (y1.mp w) z⟩
theorem shL_len {c : Int → Int} {n : Int} {b : Int32} {L : List Int} (h : shL c n b L) : L.length ≤ n.toNat := by
  obtain ⟨m1, e1, -⟩ := h
  rw [e1]
  exact spBt_len _ _
/-- the reference drafts a version's text -/
theorem Model_draftText_z {m : Nat} {h : ax_Hp} {s : mS} {c : Int → Int} {w n : Int} {b : Int32} (B : mB s) (VT : veT s w n c) : ∃ (s' : mS) (L : List Int), ax_F (m + 11) 189 [ax_A (some 24), ax_I (Int32.ofInt w), ax_I b] (mH h s) = some (.inl none, mH h s') ∧ kpF s s' ∧ s'.1 0 = s.1 0 ∧ shL c n b L ∧ s'.1 7 = L.length ∧ (∀ j : Nat, j < L.length → s'.2.2.1 8 j = L.getD j 0) := by
  obtain ⟨B1, B2, B3, B4⟩ := B
  obtain ⟨t1, t2, t3, t4, t5, t6, t7, t8, t9⟩ := VT
  obtain ⟨s2, e2, lx, T2, n2, d39, P2, O2, d7, M2⟩ := Model_load_z (m := m) (h := h) (s := s) (c := c) (tb := 0) (n := n) (w := w) (Or.inl rfl) t1 t2 B1 t3 t4 t5 t6 t7 t8 B3 t9
  have M2' : ∀ p : Int, 0 ≤ p → p < 160 → (spX c 6 0 p → s2.2.2.1 25 p.toNat = 1) ∧ (¬ spX c 6 0 p → s2.2.2.1 25 p.toNat = 0) := fun p p0 p1 => by
    have := M2 p p0 p1
    rw [show (160 * 0 + p).toNat = p.toNat by omega] at this
    exact this
  have n2' : s2.2.2.1 15 0 = n := n2
  have m01 : ∀ p : Int, 0 ≤ p → p < n → (s2.2.2.1 25 p.toNat = 0 ∨ s2.2.2.1 25 p.toNat = 1) ∧ (s2.2.2.1 25 p.toNat ≠ 0 ↔ spX c 6 0 p) := fun p p0 p1 => by
    obtain ⟨a1, a2⟩ := M2' p p0 (by omega)
    by_cases q : spX c 6 0 p
    · exact ⟨Or.inr (a1 q), fun _ => q, fun _ => by rw [a1 q]; decide⟩
    · exact ⟨Or.inl (a2 q), fun z => absurd (a2 q) z, fun z => absurd z q⟩
  have tx : ∀ p : Int, 0 ≤ p → p < n → s2.2.2.1 14 p.toNat = c p := fun p p0 p1 => by
    have := T2.2.2.1 p p0 (by show p < s2.2.2.1 15 0; omega)
    rw [show (160 * 0 + p).toNat = p.toNat by omega] at this
    exact this
  obtain ⟨s3, hs3⟩ : ∃ s3, s3 = mI s2 7 0 := ⟨_, rfl⟩
  have a7 : s3.1 7 = 0 := by rw [hs3]; rfl
  have ar : s3.2.2.1 = s2.2.2.1 := by rw [hs3]; rfl
  obtain ⟨mk, hmk⟩ : ∃ mk : Int → Int, mk = fun p => if b = 0 then 0 else s2.2.2.1 25 p.toNat := ⟨_, rfl⟩
  have k0 : ∀ p, b = 0 → mk p = 0 := fun p q => by rw [hmk]; exact if_pos q
  have k1 : ∀ p, ¬ b = 0 → mk p = s2.2.2.1 25 p.toNat := fun p q => by rw [hmk]; exact if_neg q
  obtain ⟨s4, e4, f4, g4⟩ := Model_draft_l (m := m + 9) (h := h) (c := c) (mk := mk) (b := b) (n := n) t5 n.toNat s3 0 ax_fuel (by omega) (by omega) (by rw [ar]; exact n2') (by rw [ar]; exact tx) (fun p p0 p1 => by rw [ar]; exact ⟨k0 p, k1 p, (m01 p p0 p1).1⟩) (by omega) (by omega) (by unfold ax_fuel; omega)
  have sh : shL c n b (spBt c mk 0 n.toNat) := ⟨mk, rfl, fun p p0 p1 => ⟨k0 p, fun q => by rw [k1 p q]; exact (m01 p p0 p1).2⟩⟩
  have ln := shL_len sh
  generalize spBt c mk 0 n.toNat = L at *
  refine ⟨s4, L, ?_, ?_, ?_, sh, ?_, fun j hj => ?_⟩
  · rw [Model_draftText_F]
    unfold Model_draftText_b
    rw [mS_on, pl_cv (show ax_F (m + 10) 180 [ax_A (some 24), ax_I 0, ax_I (Int32.ofInt w)] (mH h s) = _ from e2), show ax_pf (mH h s2) (some 24) 9 7 (ax_I 0) = some (mH h s3) from by rw [hs3]; exact mpf_7 h s2 0, Option.bind_some]
    exact e4
  · refine lx.kp.trans ?_
    refine ⟨fun k hk => ?_, fun k hk => ?_⟩
    · rw [f4.1 k (by omega), hs3, mI_1, if_neg (by omega)]
    · rw [f4.2.1 k (by omega), ar]
  · rw [f4.1 0 (by decide), hs3]
    exact lx.1 0 (by decide) (by decide) (by decide) (by decide) (by decide) (by decide) (by decide) (by decide)
  · have := said_1 g4
    rw [a7] at this
    omega
  · have g := congrArg Prod.snd g4
    have := (saysD_g L (s3.1 7, s3.2.2.1 8) (by show 0 ≤ s3.1 7; omega) (by show s3.1 7 + _ ≤ _; omega)).2 j hj
    rw [← g, show (s3.1 7 + (j : Int)).toNat = j by omega] at this
    exact this
/-- the reference prints as the text says -/
theorem Model_print_y {m : Nat} {h : ax_Hp} {s : mS} {c : Int → Int} {z w n : Int} {b : Int32} (z0 : -2147483648 ≤ z) (z1 : z < 2147483648) (w0 : -2147483648 ≤ w) (w1 : w < 2147483648) (B : mB s) (hv : vOk z w (s.2.2.1 11)) (VT : veT s (6 * z + w) n c) : ∃ (s' : mS) (L : List Int), ax_F (m + 12) 188 [ax_A (some 24), ax_I (Int32.ofInt z), ax_I (Int32.ofInt w), ax_I b] (mH h s) = some (.inl (some (ax_I (Int32.ofInt L.length))), mH h s') ∧ shL c n b L ∧ s'.1 0 = 0 ∧ s'.1 1 = s.1 1 ∧ s'.1 3 = s.1 3 ∧ s'.1 5 = L.length ∧ s'.1 9 = s.1 9 ∧ (0 ≤ s'.1 7 ∧ s'.1 7 ≤ 1000000) ∧ (∀ k, k = 2 ∨ k = 4 ∨ k = 10 ∨ k = 11 ∨ k = 12 ∨ k = 13 → s'.2.2.1 k = s.2.2.1 k) ∧ ∀ j : Nat, j < L.length → s'.2.2.1 6 j = L.getD j 0 := by
  have n160 := VT.2.2.2.2.1
  obtain ⟨s1, L, e1, k1, a0, sh, a7, a8⟩ := Model_draftText_z (m := m) (h := h) (s := mI s 0 0) (c := c) (w := 6 * z + w) (n := n) (b := b) B VT
  have ln := shL_len sh
  obtain ⟨s2, e2, r1, r2, r5, r6⟩ := Model_keep_z (m := m + 10) (h := h) (s := s1) (by omega) (by omega)
  rw [a7] at e2 r2 r6
  refine ⟨s2, L, ?_, sh, ?_, ?_, ?_, r2, ?_, ?_, fun k hk => ?_, fun j hj => ?_⟩
  · rw [Model_print_F]
    unfold Model_print_b
    rw [mS_on, pl_ci (Model_isVersion_y z0 z1 w0 w1 B.2.1 hv), if_neg (show ¬ Int32.ofInt 1 = 0 from by decide)]
    unfold Model_print_jn15
    rw [show ax_pf (mH h s) (some 24) 9 0 (ax_I 0) = some (mH h (mI s 0 0)) from mpf_0 h s 0, Option.bind_some, mgi_0, Option.bind_some, if_pos (show Int32.ofInt ((mI s 0 0).1 0) ≤ 0 from by show Int32.ofInt 0 ≤ 0; decide), mS_on, show (6 : Int32) * Int32.ofInt z + Int32.ofInt w = Int32.ofInt (6 * z + w) from by rw [show (6 : Int32) = Int32.ofInt 6 from rfl, zi_mul, zi_add], pl_cv e1, mS_on, pl_ci e2]
    rfl
  · rw [r1 0 (by decide), a0]; rfl
  · rw [r1 1 (by decide), k1.1 1 (by omega)]; rfl
  · rw [r1 3 (by decide), k1.1 3 (by omega)]; rfl
  · rw [r1 9 (by decide), k1.1 9 (by omega)]; rfl
  · rw [r1 7 (by decide), a7]; omega
  · rw [r5 k (by omega), k1.2 k (by omega)]; rfl
  · rw [r6 j (by omega)]; exact a8 j hj
