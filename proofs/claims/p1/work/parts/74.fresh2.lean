theorem mdOk_z {z w : Int} (z0 : -2147483648 ≤ z) (z1 : z < 2147483648) (w0 : -2147483648 ≤ w) (w1 : w < 2147483648) : mdOk (Int32.ofInt z) (Int32.ofInt w) = true ↔ (0 ≤ z ∧ z ≤ 3 ∧ 0 ≤ w ∧ w ≤ 6) := by
  have := isSub_z z0 z1
  unfold mdOk
  rw [Bool.and_eq_true, Bool.and_eq_true, Bool.not_eq_true', Bool.not_eq_true', decide_eq_false_iff_not, decide_eq_false_iff_not, this, zi_0, show (6 : Int32) = Int32.ofInt 6 from rfl]
  simp (disch := omega) only [zi_lt]
  omega
theorem ax_set_mH {h : ax_Hp} {s : mS} {a : Nat} {o : ax_Ob} (ha : a < 24 ∨ 58 < a) : ax_set (mH h s) a o = mH (ax_set h a o) s := by
  refine Prod.ext rfl (Prod.ext rfl ?_)
  funext q
  show (if q = a then some o else if q = 24 then _ else if 25 ≤ q ∧ q ≤ 58 then _ else h.2.2 q) = if q = 24 then _ else if 25 ≤ q ∧ q ≤ 58 then _ else if q = a then some o else h.2.2 q
  by_cases c : q = a
  · rw [if_pos c, if_neg (by omega), if_neg (by omega), if_pos c]
  · rw [if_neg c, if_neg c]
theorem p1_mode (o a b c : Int32) (K : Option Nat → Option Nat → Option Nat → Option Nat → Int32 → ax_Hp → ax_O) (op : (o &&& 15).toInt = 4) : ∃ h2, Law_law_bd23 (ax_F 1391) K (some 0) (some 1) (some 24) (some 59) 0 (hS o a b c) = K (some 0) (some 1) (some 24) (some 59) 4 h2 ∧ scI [o, a, b, c] h2 := by
  have hs : scI [o, a, b, c] (hS o a b c) := rfl
  have D := dkI_start (some (.inr (0, [o, a, b, c].map ax_I)))
  have S := s0_start (some (.inr (0, [o, a, b, c].map ax_I)))
  change dkI (hS o a b c) _ _ _ _ _ at D
  change hS o a b c = mH (hS o a b c) s0 at S
  obtain ⟨za, ea, za0, za1⟩ := zi_of a
  obtain ⟨zb, eb, zb0, zb1⟩ := zi_of b
  have hcm : (hS o a b c).1 + 1 ≤ ax_CM := show 59 + 1 ≤ 600002 by decide
  have hsm : (hS o a b c).2.1 + 6 ≤ ax_SM := show 9731 + 6 ≤ 7302232 by decide
  have hz := mdOk_z za0 za1 zb0 zb1
  rw [← ea, ← eb] at hz
  by_cases q : mdOk a b = true
  · have q' := hz.mp q
    have qs : isSub a = true := by
      unfold mdOk at q
      rw [Bool.and_eq_true, Bool.and_eq_true] at q
      exact q.1.1
    obtain ⟨gs, g1, g2, g3⟩ := hS_gs o a b c qs
    have e1 := Law_mode_e (m := 1388) D.1 rfl D.2.2.2.2.2.1 q g1 g3
    have hlt : 15 + 2 * a.toNatClampNeg < 24 := by have := (isSub_nat qs).2; omega
    have T : ax_set (hS o a b c) (15 + 2 * a.toNatClampNeg) (.inl (6, gs.set 2 (ax_I b))) = mH (ax_set (hS o a b c) (15 + 2 * a.toNatClampNeg) (.inl (6, gs.set 2 (ax_I b)))) s0 := (congrArg (fun h => ax_set h _ _) S).trans (ax_set_mH (Or.inl hlt))
    have e2 := Model_mode_y (m := 1389) (h := ax_set (hS o a b c) (15 + 2 * a.toNatClampNeg) (.inl (6, gs.set 2 (ax_I b)))) (s := s0) q'.1 q'.2.1 q'.2.2.1 q'.2.2.2
    rw [← ea, ← eb] at e2
    have k1 : scI [o, a, b, c] (ax_set (hS o a b c) (15 + 2 * a.toNatClampNeg) (.inl (6, gs.set 2 (ax_I b)))) := (pl_ne (show 0 ≠ 15 + 2 * a.toNatClampNeg by omega)).trans hs
    exact ⟨_, turn_4 K (rdI_0 o a b c) op hs e1 k1 (T ▸ obM_mH _ _) ((congrArg _ T).trans e2) rfl (mF_0 _), scI_mH k1⟩
  · have T : thr (hS o a b c) = mH (thr (hS o a b c)) s0 := (congrArg thr S).trans (thr_mH (show 58 ≤ 59 by decide))
    have e2 := Model_mode_n (m := 1389) (h := thr (hS o a b c)) (s := s0) za0 za1 zb0 zb1 (fun z => q (hz.mpr z))
    rw [← ea, ← eb] at e2
    exact ⟨_, turn_4 K (rdI_0 o a b c) op hs (Law_mode_no (m := 1388) D.1 rfl D.2.2.2.2.2.1 q hcm hsm) (scI_thr hs) (T ▸ obM_mH _ _) ((congrArg _ T).trans e2) rfl (mF_0 _), scI_mH (scI_thr hs)⟩
theorem p1_versions (o a b c : Int32) (K : Option Nat → Option Nat → Option Nat → Option Nat → Int32 → ax_Hp → ax_O) (op : (o &&& 15).toInt = 6) : ∃ h2, Law_law_bd23 (ax_F 1391) K (some 0) (some 1) (some 24) (some 59) 0 (hS o a b c) = K (some 0) (some 1) (some 24) (some 59) 4 h2 ∧ scI [o, a, b, c] h2 := by
  have hs : scI [o, a, b, c] (hS o a b c) := rfl
  have D := dkI_start (some (.inr (0, [o, a, b, c].map ax_I)))
  have S := s0_start (some (.inr (0, [o, a, b, c].map ax_I)))
  change dkI (hS o a b c) _ _ _ _ _ at D
  change hS o a b c = mH (hS o a b c) s0 at S
  obtain ⟨za, ea, za0, za1⟩ := zi_of a
  have hcm : (hS o a b c).1 + 1 ≤ ax_CM := show 59 + 1 ≤ 600002 by decide
  have hsm : (hS o a b c).2.1 + 6 ≤ ax_SM := show 9731 + 6 ≤ 7302232 by decide
  have hz := isSub_z za0 za1
  rw [← ea] at hz
  by_cases q : isSub a = true
  · have q' := hz.mp q
    obtain ⟨gs, g1, g2, g3⟩ := hS_gs o a b c q
    have e1 := Law_versions_e (m := 1388) (w := ax_L 0) D.1 rfl D.2.2.2.2.2.1 q g1 g2 ((ls_at 58).trans rfl)
    have T : ax_set (hS o a b c) 59 (.inr (2, [ax_L (0 : Int32).toInt64])) = mH (ax_set (hS o a b c) 59 (.inr (2, [ax_L (0 : Int32).toInt64]))) s0 := (congrArg (fun h => ax_set h _ _) S).trans (ax_set_mH (Or.inr (by decide)))
    have e2 := Model_versions_y (m := 1389) (h := ax_set (hS o a b c) 59 (.inr (2, [ax_L (0 : Int32).toInt64]))) (s := s0) q'.1 q'.2
    rw [← ea] at e2
    have k1 : scI [o, a, b, c] (ax_set (hS o a b c) 59 (.inr (2, [ax_L (0 : Int32).toInt64]))) := (pl_ne (show 0 ≠ 59 by decide)).trans hs
    exact ⟨_, turn_6 K (rdI_0 o a b c) op hs e1 k1 (T ▸ obM_mH _ _) ((congrArg _ T).trans e2) rfl (mF_0 _) (fun _ => (mH_o _ _ (Or.inr (by decide))).trans pl_set), scI_mH k1⟩
  · have T : thr (hS o a b c) = mH (thr (hS o a b c)) s0 := (congrArg thr S).trans (thr_mH (show 58 ≤ 59 by decide))
    have e2 := Model_versions_n (m := 1389) (h := thr (hS o a b c)) (s := s0) za0 za1 (fun z => q (hz.mpr z))
    rw [← ea] at e2
    exact ⟨_, turn_6 K (rdI_0 o a b c) op hs (Law_versions_no (m := 1388) D.1 q hcm hsm) (scI_thr hs) (T ▸ obM_mH _ _) ((congrArg _ T).trans e2) rfl (mF_0 _) (fun q => absurd q (by decide)), scI_mH (scI_thr hs)⟩
