def fdQ (c : Int → Int) (D : Nat) (A : Nat → Nat → Int) (m x : Int) : Prop := A 21 m.toNat = c x ∧ A 24 m.toNat = spGv c D x ∧ NdS A c D m (x + 2)
def fsz (c : Int → Int) (D : Nat) (x : Int) : Int := spN c D (x + 2)
theorem fsz_1 (c : Int → Int) (D : Nat) (x : Int) : 1 ≤ fsz c D x := spN_1 c D (x + 2)
theorem spFl_s (c ty : Int → Int) (lt : Int → Int → Int) (k : Nat) (f : Int) : spFl c ty lt (k + 1) f = f :: if c (spFe c ty lt f) = 44 then spFl c ty lt k (spFe c ty lt f + 1) else [] := rfl
theorem dfF.gl {s s' : mS} {tb f p e : Int} (h : dfF s s' tb f p e) : glF s s' := ⟨fun k _ k2 k3 k4 k5 k6 k7 => h.1 k k3 k4 k5 k6 k7, h.2.1, fun k _ k2 k3 k4 k5 k6 k7 k8 k9 => h.2.2.1 k (by omega) (by omega) k5 k6 k7 k8 k9⟩
set_option maxHeartbeats 4000000 in
/-- behind a field's type: its default, if there is one; then the comma or the end -/
theorem simT_be {m : Nat} {h : ax_Hp} {c : Int → Int} {tb : Int} {D : Nat} {S S1 : mS} {n n' o q : Int} {mn : Int} (hD : D ≤ 5) (htb : tb = 0 ∨ tb = 1) (o0 : 0 ≤ o) (o1 : o ≤ 6) (T1 : isT S1 tb c) (hq : 0 ≤ q) (n0 : 0 ≤ n) (n1 : n < n') (n2 : n' + spN c D (q + 2) ≤ 240) (h27 : S1.2.2.1 27 o.toNat = n) (h28 : S1.2.2.1 28 o.toNat = n') (k82 : S1.2.2.1 17 n.toNat = 82) (h20 : S1.2.2.1 20 n.toNat = mn) (m0 : 0 ≤ mn) (m1 : mn < 100) (h39 : S1.1 39 = 0) (h7 : 0 ≤ S1.1 7 ∧ S1.1 7 ≤ 1000000) (hty : 0 ≤ spTy c D (q + 2) ∧ q + 2 < spTy c D (q + 2) ∧ spTy c D (q + 2) ≤ 160)
    (K : tyP S S1 c tb n' (o + 1) (q + 2) (spTy c D (q + 2)) (c q) (spN c D (q + 2)) D) (hF : cFr S S1 tb n' (spN c D (q + 2)) o (q + 2) (spTy c D (q + 2)) (c (q + 2)) (c q)) :
    (0 ≤ spFe c (spTy c D) (spVal c c false D) q → ∃ S2, ax_F (m + 8) 154 [ax_A (some 24), ax_I (Int32.ofInt tb), ax_I (Int32.ofInt (spTy c D (q + 2)))] (mH h S1) = (if c (spFe c (spTy c D) (spVal c c false D) q) = 44 ∧ mn < 6 then some (.inl (some (ax_I (Int32.ofInt (spFe c (spTy c D) (spVal c c false D) q + 1)))), mH h (mI (mI S2 38 1) 38 3)) else if c (spFe c (spTy c D) (spVal c c false D) q) = 41 then some (.inl (some (ax_I (Int32.ofInt (spFe c (spTy c D) (spVal c c false D) q + 1)))), mH h (mI (mI S2 38 1) 26 o)) else some (.inl (some (ax_I (Int32.ofInt (-1 - spFe c (spTy c D) (spVal c c false D) q)))), mH h (mI S2 38 1))) ∧ isT S2 tb c ∧ glF S1 S2 ∧ S2.1 7 = S1.1 7 ∧ cFr S S2 tb n' (spN c D (q + 2)) o q (spFe c (spTy c D) (spVal c c false D) q) (c (q + 2)) (c q) ∧ fdQ c D S2.2.2.1 n' q ∧ exM S1 S2 (fun i => c (spTy c D (q + 2)) = 61 ∧ spTy c D (q + 2) ≤ i ∧ i < spFe c (spTy c D) (spVal c c false D) q) tb) ∧
    (spFe c (spTy c D) (spVal c c false D) q < 0 → ∃ S2, ax_F (m + 8) 154 [ax_A (some 24), ax_I (Int32.ofInt tb), ax_I (Int32.ofInt (spTy c D (q + 2)))] (mH h S1) = some (.inl (some (ax_I (Int32.ofInt (spFe c (spTy c D) (spVal c c false D) q)))), mH h S2) ∧ glF S1 S2) := by
  have zN := T1.2.1
  have hc := T1.2.2.2.1
  have hv : ∀ q, 160 ≤ q → c q = 0 := fun q hq => hc q (by omega)
  have e1 : (o + 1 - 1).toNat = o.toNat := by rw [show o + 1 - 1 = o by omega]
  have z1 := spN_1 c D (q + 2)
  have t26 : S1.1 26 = o + 1 := K.2.1
  have b := T1.2.2.2.2 (spTy c D (q + 2))
  obtain ⟨tN19, tN21, tN24⟩ := K.2.2.2.2.2.2.2.2.1
  have tN := K.2.2.2.2.2.2.2.2.2.2.2.2
  by_cases c1 : c (spTy c D (q + 2)) = 61
  · have eF : spFe c (spTy c D) (spVal c c false D) q = spVal c c false D (q + 2) (spTy c D (q + 2) + 1) := by unfold spFe; rw [if_pos c1]
    rw [eF]
    have lq : spTy c D (q + 2) < 160 := lt_of hv (by omega)
    have B := spVal_b (c := c) (val := false) hv D (q + 2) (spTy c D (q + 2) + 1) (by omega) (by omega)
    unfold bd at B
    obtain ⟨D1, D2⟩ := Model_beh_D (m := m) (h := h) (s := S1) (c := c) (tb := tb) (p := spTy c D (q + 2)) (o := o + 1) (n := n) (f := n') (t := q + 2) (D := D) T1 htb (by omega) t26 (by omega) (by omega) (by rw [e1]; exact h27) n0 (by omega) k82 c1 (by rw [e1]; exact h28) (by omega) (by omega) tN n2 h39 h7
    refine ⟨fun z => ?_, fun z => ?_⟩
    · obtain ⟨S2, a1, a2⟩ := D1 z
      clear D1 D2
      have a2' := a2
      obtain ⟨d1, d2, d3, d4, d5, d6⟩ := a2
      have T2 : isT S2 tb c := isT_of T1 (d3 15 (by decide) (by decide) (by decide) (by decide) (by decide) (by decide) (by decide)) (d3 14 (by decide) (by decide) (by decide) (by decide) (by decide) (by decide) (by decide))
      have fin := Model_beh_fin (m := m + 6) (h := h) (s := mI S2 38 1) (c := c) (tb := tb) (p := spVal c c false D (q + 2) (spTy c D (q + 2) + 1)) (o := o + 1) (n := n) (k := 82) (mn := mn) (isT_of T2 rfl rfl) htb (by omega) (by rw [mI_1, if_neg (by decide), d1 26 (by decide) (by decide) (by decide) (by decide) (by decide)]; exact t26) (by omega) (by omega) n0 (by omega) (by rw [mI_2, d3 17 (by decide) (by decide) (by decide) (by decide) (by decide) (by decide) (by decide)]; exact k82) (Or.inr rfl) (by rw [mI_2, d3 20 (by decide) (by decide) (by decide) (by decide) (by decide) (by decide) (by decide)]; exact h20) m0 m1
      rw [if_neg (show ¬ (82 : Int) = 85 by decide), if_neg (show ¬ (82 : Int) = 85 by decide), show o + 1 - 1 = o by omega] at fin
      refine ⟨S2, ?_, T2, a2'.gl, d1 7 (by decide) (by decide) (by decide) (by decide) (by decide), ?_, ?_, fun i => ⟨fun w => by obtain ⟨w1, w2, w3⟩ := w; rw [d6 i, if_pos (by omega)], fun w => by rw [d6 i, if_neg (fun u => w ⟨c1, by omega, by omega⟩)]⟩⟩
      · rw [a1, fin]
        by_cases q1 : c (spVal c c false D (q + 2) (spTy c D (q + 2) + 1)) = 44 ∧ mn < 6
        · rw [if_pos q1, if_pos q1]
        · rw [if_neg q1, if_neg q1]
          by_cases q2 : c (spVal c c false D (q + 2) (spTy c D (q + 2) + 1)) = 41
          · rw [if_pos q2, if_pos ⟨q2, Or.inl rfl⟩]
          · rw [if_neg q2, if_neg (fun w => q2 w.1)]
      · obtain ⟨f1, f26, f2, f3, f16, f16t, f5, f6, f19, f27, f28, f28o, f25⟩ := hF
        have dk : ∀ k, 17 ≤ k → k ≤ 24 → ∀ i : Nat, i ≠ n'.toNat → S2.2.2.1 k i = S1.2.2.1 k i := fun k k1 k2 i hi => by
          by_cases j : k = 24
          · rw [j]; exact d4 i hi
          · rw [d3 k j (by omega) (by omega) (by omega) (by omega) (by omega) (by omega)]
        refine ⟨fun k k1 k2 k3 k4 k5 k6 => (d1 k k2 k3 k4 k5 k6).trans (f1 k k1 k2 k3 k4 k5 k6), (d1 26 (by decide) (by decide) (by decide) (by decide) (by decide)).trans f26, d2.trans f2, fun k k1 k2 k3 k4 k5 k6 k7 k8 => (d3 k (by omega) (by omega) k4 k5 k6 k7 k8).trans (f3 k k1 k2 k3 k4 k5 k6 k7 k8), fun i hi => by rw [d3 16 (by decide) (by decide) (by decide) (by decide) (by decide) (by decide) (by decide)]; exact f16 i hi, by rw [d3 16 (by decide) (by decide) (by decide) (by decide) (by decide) (by decide) (by decide)]; exact f16t, fun k k1 k2 i hi => (dk k k1 k2 i (by omega)).trans (f5 k k1 k2 i hi), fun k k1 k2 i hi => (dk k k1 k2 i (by omega)).trans (f6 k k1 k2 i hi), by rw [d3 19 (by decide) (by decide) (by decide) (by decide) (by decide) (by decide) (by decide)]; exact f19, fun i hi => by rw [d3 27 (by decide) (by decide) (by decide) (by decide) (by decide) (by decide) (by decide)]; exact f27 i hi, fun i hi => by rw [d3 28 (by decide) (by decide) (by decide) (by decide) (by decide) (by decide) (by decide)]; exact f28 i hi, by rw [d3 28 (by decide) (by decide) (by decide) (by decide) (by decide) (by decide) (by decide)]; exact f28o, fun i hi => ?_⟩
        rw [d6 i, if_neg (by omega)]
        exact f25 i (by omega)
      · refine ⟨by rw [d3 21 (by decide) (by decide) (by decide) (by decide) (by decide) (by decide) (by decide)]; exact tN21, ?_, NdS_fr D n' (q + 2) (fun k hk i _ _ => by rw [d3 k (by omega) (by omega) (by omega) (by omega) (by omega) (by omega) (by omega)]) (fun k hk i g1 g2 => ?_) tN⟩
        · rw [d5]; unfold spGv; rw [if_pos c1]
        · by_cases j : k = 24
          · rw [j]; exact d4 i (by omega)
          · rw [d3 k j (by omega) (by omega) (by omega) (by omega) (by omega) (by omega)]
    · obtain ⟨S2, a1, a2⟩ := D2 z
      exact ⟨S2, a1, a2⟩
  · have eF : spFe c (spTy c D) (spVal c c false D) q = spTy c D (q + 2) := by unfold spFe; rw [if_neg c1]
    rw [eF]
    refine ⟨fun z => ?_, fun z => absurd z (by omega)⟩
    have be := Model_beh_UR (m := m + 6) (h := h) (s := S1) (c := c) (tb := tb) (p := spTy c D (q + 2)) (o := o + 1) (n := n) (k := 82) (mn := mn) T1 htb (by omega) t26 (by omega) (by omega) (by rw [e1]; exact h27) n0 (by omega) k82 (Or.inr rfl) h20 m0 m1 (fun _ => c1)
    rw [if_neg (show ¬ (82 : Int) = 85 by decide), if_neg (show ¬ (82 : Int) = 85 by decide), show o + 1 - 1 = o by omega] at be
    refine ⟨S1, ?_, T1, glF_refl S1, rfl, ?_, ⟨tN21, ?_, tN⟩, exM_0 rfl (fun i w => c1 w.1)⟩
    · rw [be]
      by_cases q1 : c (spTy c D (q + 2)) = 44 ∧ mn < 6
      · rw [if_pos q1, if_pos q1]
      · rw [if_neg q1, if_neg q1]
        by_cases q2 : c (spTy c D (q + 2)) = 41
        · rw [if_pos q2, if_pos ⟨q2, Or.inl rfl⟩]
        · rw [if_neg q2, if_neg (fun w => q2 w.1)]
    · obtain ⟨f1, f26, f2, f3, f16, f16t, f5, f6, f19, f27, f28, f28o, f25⟩ := hF
      exact ⟨f1, f26, f2, f3, f16, f16t, f5, f6, f19, f27, f28, f28o, fun i hi => f25 i (by omega)⟩
    · rw [tN24]; unfold spGv; rw [if_neg c1]
