theorem gT_H : ∀ D : Nat, D ≤ 6 → hsT D ≤ hfT D := by decide
def fdS (m : Nat) (h : ax_Hp) (c : Int → Int) (tb : Int) (D : Nat) (sg : mS) (n o p x : Int) (r : Nat) : Prop := ∀ (L : List Int) (S : mS) (q : Int), hInv sg S tb n o p q (fsz c D) (fdQ c D) L → L.length + (r + 1) = 6 → isT S tb c → S.1 39 = 0 → (0 ≤ S.1 7 ∧ S.1 7 ≤ 1000000) → (p + 2 ≤ q ∧ q ≤ 160) → 3 * (n + 1 + lsz (fsz c D) L - 120 * tb) ≤ 2 * (q + 2) + (x - 5 + (L.length : Int) * (gsT D - 6)) → spPt c (D + 1) p = L ++ spFl c (spTy c D) (spVal c c false D) (r + 1) q → exM sg S (fun i => ∃ y ∈ L, fdX c D y i) tb →
    (0 ≤ spFd c (spTy c D) (spVal c c false D) (r + 1) (L.map c).reverse q → ∃ (k : Nat) (S1 : mS), (k : Int) ≤ 4 * (spFd c (spTy c D) (spVal c c false D) (r + 1) (L.map c).reverse q - q) ∧ (∀ fuel, rs m h tb (fuel + k) q 0 3 S = rs m h tb fuel (spFd c (spTy c D) (spVal c c false D) (r + 1) (L.map c).reverse q) 0 1 (mI (mI S1 38 1) 26 o)) ∧ hInv sg S1 tb n o p (spFd c (spTy c D) (spVal c c false D) (r + 1) (L.map c).reverse q) (fsz c D) (fdQ c D) (spPt c (D + 1) p) ∧ 3 * (n + 1 + lsz (fsz c D) (spPt c (D + 1) p) - 120 * tb) ≤ 2 * spFd c (spTy c D) (spVal c c false D) (r + 1) (L.map c).reverse q + x + hsT (D + 1) ∧ exM sg S1 (fun i => ∃ y ∈ spPt c (D + 1) p, fdX c D y i) tb) ∧
    (spFd c (spTy c D) (spVal c c false D) (r + 1) (L.map c).reverse q < 0 → ∃ (k : Nat) (S' : mS), (k : Int) ≤ 4 * (170 - q) ∧ (∀ fuel, rs m h tb (fuel + k) q 0 3 S = some (.inl (some (ax_I (Int32.ofInt (-1 - spFd c (spTy c D) (spVal c c false D) (r + 1) (L.map c).reverse q)))), mH h S')) ∧ glF S S')
set_option maxHeartbeats 8000000 in
theorem simT_fd1 {m : Nat} {h : ax_Hp} {c : Int → Int} {tb : Int} {D : Nat} (E : simT m h c tb D) (hD : D ≤ 5) {sg : mS} {n o p x : Int} (htb : tb = 0 ∨ tb = 1) (hn : 120 * tb ≤ n) (hp0 : 0 ≤ p) (ho : o + ((D + 1 : Nat) : Int) = 6) (o0 : 0 ≤ o) (k82 : sg.2.2.1 17 n.toNat = 82) (hg : x + hfT (D + 1) ≤ 40) (r : Nat) (ih : ∀ r', r = r' + 1 → fdS m h c tb D sg n o p x r') : fdS m h c tb D sg n o p x r := by
  intro L S q I hr T h39 h7 hq hb hpt M
  have I' := I
  obtain ⟨u, i26, i27, i16, i20, iE, iN, ich⟩ := I
  have zN := T.2.1
  have hc := T.2.2.2.1
  have bq := T.2.2.2.2 q
  have bq1 := T.2.2.2.2 (q + 1)
  have hv : ∀ q, 160 ≤ q → c q = 0 := fun q hq => hc q (by omega)
  have ln := lsz_nn (fsz_1 c D) L
  have o1 : (o + 1 - 1).toNat = o.toNat := by rw [show o + 1 - 1 = o by omega]
  have m17 : S.2.2.1 17 n.toNat = 82 := by rw [u.2.2.2.2.2.1 17 (by decide) (by decide) (by decide) (by decide)]; exact k82
  have gR := gT_R D hD L.length (by omega)
  have gl := g_le c D hD (q + 2)
  have gf1 : 1 ≤ gfT D := by have := g_1 (fun _ => 85) D 0; unfold gF at this; rw [if_pos rfl] at this; exact this.2
  have chn : ndCh (S.2.2.1 19) (fun k w => S.2.2.1 21 k.toNat = c w) (S.2.2.1 18 n.toNat) L ∨ 240 < n + 1 + lsz (fsz c D) L := by
    by_cases big : 240 < n + 1 + lsz (fsz c D) L
    · exact Or.inr big
    · refine Or.inl ?_
      by_cases hL : L = []
      · rw [hL, iE hL]; rfl
      · rw [(iN hL).1]
        exact pch_nd (fsz_1 c D) L (n + 1) (by omega) (by omega) (fun k w _ _ z => z.1) hL ich
  have q2 : q + 2 ≤ 160 ∨ c (q + 1) ≠ 58 := by
    by_cases w : c (q + 1) = 58
    · have := lt_of hv (q := q + 1) (by omega); exact Or.inl (by omega)
    · exact Or.inr w
  -- how many nodes there may be by now: the name stands, or it doesn't
  have gH := gT_H (D + 1) (by omega)
  have nlt : n + 1 + lsz (fsz c D) L ≤ 120 * tb + 120 := by
    rcases Nat.eq_zero_or_pos L.length with h0 | h0
    · rw [h0] at hb
      rw [show ((0 : Nat) : Int) * (gsT D - 6) = 0 from Int.zero_mul _] at hb
      have : 1 ≤ hfT (D + 1) := by have := g_1 (fun _ => 0) (D + 1) 0; unfold gF at this; rw [if_neg (by decide)] at this; exact this.2
      omega
    · obtain ⟨i, hi⟩ : ∃ i, L.length = i + 1 := ⟨L.length - 1, by omega⟩
      have g2 := gT_R D hD i (by omega)
      have em0 : (L.length : Int) * (gsT D - 6) = (i : Int) * (gsT D - 6) + (gsT D - 6) := by
        rw [hi, show ((i + 1 : Nat) : Int) = (i : Int) + 1 by omega, Int.add_mul, Int.one_mul]
      omega
  have chn : ndCh (S.2.2.1 19) (fun k w => S.2.2.1 21 k.toNat = c w) (S.2.2.1 18 n.toNat) L := chn.resolve_right (by omega)
  have nm := Model_readName_z (m := m + 6) (h := h) (s := S) (c := c) (tb := tb) (q := q) (o := o + 1) (P := fun k w => S.2.2.1 21 k.toNat = c w) (l := L) T htb (by omega) i26 (by omega) (by omega) (by rw [o1, i27]; omega) (by rw [o1, i27]; omega) (fun k w z => ⟨z, (T.2.2.2.2 w).1, by have := (T.2.2.2.2 w).2; omega⟩) (by rw [o1, i27]; exact chn) (by omega)
  have nstep := fun fuel => rs_3 (m := m) (h := h) (fuel := fuel) (y := 0) T htb (p := q) (by omega) (by omega) nm
  rw [spFd_s]
  by_cases c1 : ¬ isSm (c q) ∨ c q ∈ (L.map c).reverse
  · rw [if_pos c1]
    refine ⟨fun z => absurd z (by omega), fun _ => ⟨2, S, by omega, fun fuel => ?_, glF_refl S⟩⟩
    rw [show fuel + 2 = fuel + 1 + 1 by omega, nstep, if_neg (fun z => c1.elim (fun w => w z.1) (fun w => by obtain ⟨y, y1, y2⟩ := seen_iff.mp w; exact z.2 y y1 y2))]
    exact rs_neg (by omega) (by omega)
  · rw [if_neg c1]
    have sm : isSm (c q) := Decidable.byContradiction fun z => c1 (Or.inl z)
    have ns : ∀ y ∈ L, c y ≠ c q := fun y hy z => c1 (Or.inr (seen_iff.mpr ⟨y, hy, z⟩))
    simp only [if_pos (show isSm (c q) ∧ ∀ y ∈ L, c y ≠ c q from ⟨sm, ns⟩)] at nstep
    by_cases c2 : c (q + 1) ≠ 58
    · rw [if_pos c2]
      refine ⟨fun z => absurd z (by omega), fun _ => ⟨2, S, by omega, fun fuel => ?_, glF_refl S⟩⟩
      rw [show fuel + 2 = fuel + 1 + 1 by omega, nstep, if_neg c2]
      exact rs_neg (by omega) (by omega)
    · rw [if_neg c2]
      have c2 : c (q + 1) = 58 := Decidable.not_not.mp c2
      simp only [if_pos c2] at nstep
      have lq1 : q + 1 < 160 := lt_of hv (by omega)
      have R0 : pr0 S c tb (o + 1) (n + 1 + lsz (fsz c D) L - 120 * tb) (q + 2) := by
        refine ⟨T, htb, i26, by omega, i16, by omega, by omega, fun _ => ?_⟩
        rw [o1, i27, i20]
        refine ⟨by omega, by omega, by omega, by omega, fun z => ?_⟩
        have hL : L ≠ [] := fun w => by rw [w] at z; exact z rfl
        have := (iN hL).2
        have hd := lsz_nn (fsz_1 c D) L.dropLast
        have hlt := lsz_drop (fsz_1 c D) L hL
        omega
      have par0 : parOk S c (o + 1) (c (q + 2)) := by
        refine Or.inr (Or.inl ?_)
        rw [o1, i27, m17]
        omega
      obtain ⟨I1, I2⟩ := E S (o + 1) (n + 1 + lsz (fsz c D) L - 120 * tb) (q + 2) (c q) (x - 5 + (L.length : Int) * (gsT D - 6)) R0 (by omega) par0 (by omega) h39 h7 hb (by omega)
      have B := spTy_b hv D (q + 2) (by omega) (by omega)
      unfold bd at B
      by_cases c3 : spTy c D (q + 2) < 0
      · rw [if_pos c3]
        refine ⟨fun z => absurd z (by omega), fun _ => ?_⟩
        obtain ⟨k, S', k1, k2, k3⟩ := I2 c3
        clear I1 I2
        exact ⟨k + 1, S', by omega, fun fuel => by rw [show fuel + (k + 1) = fuel + k + 1 by omega, nstep, k2], k3⟩
      · rw [if_neg c3]
        obtain ⟨k, S1, k1, k2, k3, k4, kX⟩ := I1 (by omega)
        clear I1 I2
        rw [show 120 * tb + (n + 1 + lsz (fsz c D) L - 120 * tb) = n + 1 + lsz (fsz c D) L by omega] at k3
        have F := tyP_c o0 (by omega) (by
          rw [i27, i20]
          refine ⟨by omega, by omega, fun z => ?_⟩
          have hL : L ≠ [] := fun w => by rw [w] at z; exact z rfl
          have := (iN hL).2
          have hd := lsz_nn (fsz_1 c D) L.dropLast
          have hlt := lsz_drop (fsz_1 c D) L hL
          omega) k3
        have gl1 : glF S S1 := k3.gl
        have t3 := k3.2.2.2.1
        have T1 : isT S1 tb c := isT_of T (t3 15 (by omega) (by decide) (by decide) (by decide) (by decide) (by decide) (by decide) (by decide)) (t3 14 (by omega) (by decide) (by decide) (by decide) (by decide) (by decide) (by decide) (by decide))
        have H1 := hStep (v := q) (P := fun A m w => True) (sz := fsz c D) (fsz_1 c D) (by omega) o0 (show p ≤ q + 2 ∧ q + 2 ≤ spTy c D (q + 2) by omega) (show hInv sg S tb n o p (q + 2) (fsz c D) (fun A m w => True) L from ⟨ufr_q u (by omega), i26, i27, i16, i20, iE, iN, pch_of (fsz_1 c D) L _ (by omega) (fun _ _ _ _ _ => trivial) (fun _ _ _ => rfl) ich⟩) F trivial (fun _ _ _ _ _ _ _ => trivial)
        obtain ⟨v, j26, j27, j16, j20, -, jN, -⟩ := H1
        have lA : (L ++ [q]).length = L.length + 1 := by rw [List.length_append]; rfl
        have zA : lsz (fsz c D) (L ++ [q]) = lsz (fsz c D) L + fsz c D q := by rw [lsz_app, lsz_cons, lsz_nil, Int.add_zero]
        have q17 : S1.2.2.1 17 n.toNat = 82 := by rw [v.2.2.2.2.2.1 17 (by decide) (by decide) (by decide) (by decide)]; exact k82
        have ez : fsz c D q = spN c D (q + 2) := rfl
        have s7 : S1.1 7 = S.1 7 := k3.1 7 (by decide) (by decide) (by decide) (by decide) (by decide) (by decide)
        have s39 : S1.1 39 = 0 := (k3.1 39 (by decide) (by decide) (by decide) (by decide) (by decide) (by decide)).trans h39
        have z1 := spN_1 c D (q + 2)
        have n240 : n + 1 + lsz (fsz c D) L + spN c D (q + 2) ≤ 240 := by
          omega
        obtain ⟨Q1, Q2⟩ := simT_be (m := m) (h := h) (c := c) (tb := tb) (D := D) (S := S) (S1 := S1) (n := n) (n' := n + 1 + lsz (fsz c D) L) (o := o) (q := q) (mn := ((L.length + 1 : Nat) : Int)) hD htb o0 (by omega) T1 (by omega) (by omega) (by omega) n240 j27 F.2.2.2.2.2.2.2.2.2.2.2.1 q17 (by rw [j20, lA]) (by omega) (by omega) s39 (by rw [s7]; exact h7) (by omega) k3 F
        clear v jN j16 j26
        have bF := spFe_b (ty := spTy c D) (lt := spVal c c false D) hv (fun q a b => spTy_b hv D q a b) (fun t q a b => spVal_b hv D t q a b) q (by omega) (by omega) (by omega)
        unfold bd at bF
        have fge : 0 ≤ spFe c (spTy c D) (spVal c c false D) q → spTy c D (q + 2) ≤ spFe c (spTy c D) (spVal c c false D) q := by
          unfold spFe
          by_cases w : c (spTy c D (q + 2)) = 61
          · rw [if_pos w]
            have lw : spTy c D (q + 2) < 160 := lt_of hv (by omega)
            have Bw := spVal_b (c := c) (val := false) hv D (q + 2) (spTy c D (q + 2) + 1) (by omega) (by omega)
            unfold bd at Bw
            omega
          · rw [if_neg w]; intro _; omega
        generalize hfe : spFe c (spTy c D) (spVal c c false D) q = fe at *
        by_cases c4 : fe < 0
        · rw [if_pos c4]
          refine ⟨fun z => absurd z (by omega), fun _ => ?_⟩
          obtain ⟨S2, a1, a2⟩ := Q2 c4
          clear Q1 Q2
          refine ⟨k + 3, S2, by omega, fun fuel => ?_, gl1.trans a2⟩
          rw [show fuel + (k + 3) = fuel + 1 + 1 + k + 1 by omega, nstep, k2, rs_1 (by omega) (by omega) a1]
          exact rs_neg (by omega) (by omega)
        · rw [if_neg c4]
          obtain ⟨S2, a1, T2, gl2, a7, F2, aQ, aX⟩ := Q1 (by omega)
          have M2 : exM sg S2 (fun i => ∃ y ∈ L ++ [q], fdX c D y i) tb := exM_c (M.trans (kX.trans aX)) (fun i => by
            show (_ ∨ _) ↔ (∃ y ∈ L ++ [q], fdX c D y i)
            rw [ex_app]
            exact or_congr Iff.rfl (by unfold fdX; rw [hfe]))
          clear Q1 Q2
          have H := hStep (v := q) (sz := fsz c D) (P := fdQ c D) (fsz_1 c D) (by omega) o0 (show p ≤ q ∧ q ≤ fe by omega) I' F2 aQ (fun k w a b g ag z => ⟨by have zz := fsz_1 c D w; rw [ag 21 (by omega) (by omega) k.toNat (by omega) (by omega) (Or.inl (by decide))]; exact z.1, by have zz := fsz_1 c D w; rw [ag 24 (by omega) (by omega) k.toNat (by omega) (by omega) (Or.inl (by decide))]; exact z.2.1, NdS_fr D k (w + 2) (fun j hj i b1 b2 => ag j (by omega) (by omega) i b1 b2 (Or.inl (by omega))) (fun j hj i b1 b2 => ag j (by omega) (by omega) i (by omega) b2 (Or.inr b1)) z.2.2⟩)
          have bump : 3 * (n + 1 + lsz (fsz c D) L - 120 * tb + spN c D (q + 2)) ≤ 2 * fe + (x - 5 + (L.length : Int) * (gsT D - 6)) + gsT D := by omega
          clear ich iN iE u F F2
          by_cases c5 : c fe = 41
          · rw [if_pos c5]
            have lf : fe < 160 := lt_of hv (by omega)
            rw [if_neg (show ¬ (c fe = 44 ∧ ((L.length + 1 : Nat) : Int) < 6) by omega), if_pos c5] at a1
            have hpt2 : spPt c (D + 1) p = L ++ [q] := by rw [hpt, spFl_s, hfe, if_neg (by omega)]
            refine ⟨fun _ => ⟨k + 2, S2, by omega, fun fuel => ?_, ?_, ?_, by rw [hpt2]; exact M2⟩, fun z => absurd z (by omega)⟩
            · rw [show fuel + (k + 2) = fuel + 1 + k + 1 by omega, nstep, k2, rs_1 (by omega) (by omega) a1]
              rfl
            · rw [hpt2]; exact hInv_q H (by omega)
            · rw [hpt2, zA, ez]; omega
          · rw [if_neg c5]
            by_cases c6 : r = 0 ∨ c fe ≠ 44
            · rw [if_pos c6]
              rw [if_neg (show ¬ (c fe = 44 ∧ ((L.length + 1 : Nat) : Int) < 6) by omega), if_neg c5] at a1
              refine ⟨fun z => absurd z (by omega), fun _ => ⟨k + 3, mI S2 38 1, by omega, fun fuel => ?_, gl1.trans (gl2.trans (mI_gl S2 1))⟩⟩
              rw [show fuel + (k + 3) = fuel + 1 + 1 + k + 1 by omega, nstep, k2, rs_1 (by omega) (by omega) a1]
              exact rs_neg (by omega) (by omega)
            · rw [if_neg c6]
              obtain ⟨r', hr'⟩ : ∃ r', r = r' + 1 := ⟨r - 1, by omega⟩
              have v44 : c fe = 44 := Decidable.byContradiction fun z => c6 (Or.inr z)
              have lf : fe < 160 := lt_of hv (by omega)
              rw [if_pos (show c fe = 44 ∧ ((L.length + 1 : Nat) : Int) < 6 from ⟨v44, by omega⟩)] at a1
              have step : ∀ fuel, rs m h tb (fuel + 1 + k + 1) q 0 3 S = rs m h tb fuel (fe + 1) 0 3 (mI (mI S2 38 1) 38 3) := fun fuel => by
                rw [nstep, k2, rs_1 (by omega) (by omega) a1]
                rfl
              have w39 : (mI (mI S2 38 1) 38 3).1 39 = 0 := (gl2.1 39 (by decide) (by decide) (by decide) (by decide) (by decide) (by decide) (by decide)).trans s39
              have w7 : (mI (mI S2 38 1) 38 3).1 7 = S.1 7 := a7.trans s7
              have em : (((L ++ [q]).length : Nat) : Int) * (gsT D - 6) = (L.length : Int) * (gsT D - 6) + (gsT D - 6) := by
                rw [lA, show ((L.length + 1 : Nat) : Int) = (L.length : Int) + 1 by omega, Int.add_mul, Int.one_mul]
              obtain ⟨J1, J2⟩ := ih r' hr' (L ++ [q]) (mI (mI S2 38 1) 38 3) (fe + 1) (hInv_38 (hInv_38 (hInv_q H (by omega)))) (by rw [lA]; omega) (isT_of T2 rfl rfl) w39 (by rw [w7]; exact h7) (by omega) (by rw [zA, em, ez]; omega) (by rw [hpt, spFl_s, hfe, if_pos v44, List.append_assoc, hr']; rfl) (exM_r M2 rfl)
              have er : ((L ++ [q]).map c).reverse = c q :: (L.map c).reverse := by rw [List.map_append, List.reverse_append]; rfl
              rw [er, ← hr'] at J1 J2
              have Bb := spFd_b (ty := spTy c D) (lt := spVal c c false D) hv (fun q a b => spTy_b hv D q a b) (fun t q a b => spVal_b hv D t q a b) r (c q :: (L.map c).reverse) (fe + 1) (by omega) (by omega)
              unfold bd at Bb
              refine ⟨fun z => ?_, fun z => ?_⟩
              · obtain ⟨k', S3, a1', a2', a3', a4'⟩ := J1 z
                clear J1 J2
                exact ⟨k' + k + 2, S3, by omega, fun fuel => by rw [show fuel + (k' + k + 2) = fuel + k' + 1 + k + 1 by omega, step, a2'], a3', a4'⟩
              · obtain ⟨k', S3, a1', a2', a3'⟩ := J2 z
                clear J1 J2
                exact ⟨k' + k + 2, S3, by omega, fun fuel => by rw [show fuel + (k' + k + 2) = fuel + k' + 1 + k + 1 by omega, step, a2'], gl1.trans (gl2.trans ((mI_gl S2 1).trans ((mI_gl _ 3).trans a3')))⟩
theorem simT_fd {m : Nat} {h : ax_Hp} {c : Int → Int} {tb : Int} {D : Nat} (E : simT m h c tb D) (hD : D ≤ 5) {sg : mS} {n o p x : Int} (htb : tb = 0 ∨ tb = 1) (hn : 120 * tb ≤ n) (hp0 : 0 ≤ p) (ho : o + ((D + 1 : Nat) : Int) = 6) (o0 : 0 ≤ o) (k82 : sg.2.2.1 17 n.toNat = 82) (hg : x + hfT (D + 1) ≤ 40) : ∀ r, fdS m h c tb D sg n o p x r
  | 0 => simT_fd1 E hD htb hn hp0 ho o0 k82 hg 0 (fun r' h => absurd h (by omega))
  | r + 1 => simT_fd1 E hD htb hn hp0 ho o0 k82 hg (r + 1) (fun r' h => by
    have : r' = r := by omega
    rw [this]
    exact simT_fd E hD htb hn hp0 ho o0 k82 hg r)
set_option maxHeartbeats 4000000 in
/-- an R -/
theorem simT_R {m : Nat} {h : ax_Hp} {c : Int → Int} {tb : Int} {D : Nat} (E : simT m h c tb D) {s : mS} {o a p y x : Int} (R : pr0 s c tb o a p) (hoD : o + ((D + 1 : Nat) : Int) = 6) (hpar : parOk s c o (c p)) (hy : 0 ≤ y ∧ y < 128) (h39 : s.1 39 = 0) (h7 : 0 ≤ s.1 7 ∧ s.1 7 ≤ 1000000) (hx : 3 * a ≤ 2 * p + x) (hg : x + gF c (D + 1) p ≤ 40) (hU : c p = 82) :
  (0 ≤ spTy c (D + 1) p → ∃ (k : Nat) (s' : mS), (k : Int) ≤ 4 * (spTy c (D + 1) p - p) ∧ (∀ fuel, rs m h tb (fuel + k) p y 2 s = rs m h tb fuel (spTy c (D + 1) p) 0 1 s') ∧ tyP s s' c tb (120 * tb + a) o p (spTy c (D + 1) p) y (spN c (D + 1) p) (D + 1) ∧ 3 * (a + spN c (D + 1) p) ≤ 2 * spTy c (D + 1) p + x + gS c (D + 1) p ∧ exM s s' (spX c (D + 1) p) tb) ∧
  (spTy c (D + 1) p < 0 → ∃ (k : Nat) (s' : mS), (k : Int) ≤ 4 * (170 - p) ∧ (∀ fuel, rs m h tb (fuel + k) p y 2 s = some (.inl (some (ax_I (Int32.ofInt (-1 - spTy c (D + 1) p)))), mH h s')) ∧ glF s s') := by
  have R' := R
  obtain ⟨T, htb, ho, hob, ha, hab, hp, hpr⟩ := R
  have zN := T.2.1
  have hc := T.2.2.2.1
  have hv : ∀ q, 160 ≤ q → c q = 0 := fun q hq => hc q (by omega)
  have lp : p < 160 := lt_of hv (by omega)
  have eg : gF c (D + 1) p = hfT (D + 1) ∧ gS c (D + 1) p = hsT (D + 1) := by unfold gF gS; rw [if_neg (by omega), if_neg (by omega)]; exact ⟨rfl, rfl⟩
  obtain ⟨L1, L2, L3, L4, L5, L6, L7, L8, L9⟩ := lS_P (y := y) R'
  obtain ⟨B1, B2, B3, B4, B5, B6, B7, B8, B9⟩ := bS_P (y := y) (k0 := 3) R'
  have let_ := Model_letter_UR (m := m + 5) (h := h) R' hy.1 hy.2 (Or.inr hU) (by omega) hpar
  rw [if_neg (show ¬ c p = 85 by omega)] at let_
  have H0 := hInv_0 (y := y) (k0 := 3) (sz := fsz c D) (P := fdQ c D) R'
  have gl0 : glF s (bS (lS s tb (120 * tb + a) (c p) y o) (120 * tb + a) o 3) := ⟨fun k _ k2 _ _ _ k5 _ => B1 k k2 k5, B4, fun k _ k1 k2 k3 _ _ _ _ _ => by rw [B5 k k2 k3]; exact L4 k (by omega) k3⟩
  have k82 : (grS s tb (120 * tb + a) (c p) y o).2.2.1 17 (120 * tb + a).toNat = 82 := by rw [← L7, L9.1]; exact hU
  have s39 := (B1 39 (by decide) (by decide)).trans h39
  have s7 := B1 7 (by decide) (by decide)
  have eN' : spN c (D + 1) p = 1 + lsz (fsz c D) (spPt c (D + 1) p) := by rw [spN_s, if_neg (by omega), if_neg (by omega), if_pos hU]; rfl
  have ePt : spPt c (D + 1) p = spFl c (spTy c D) (spVal c c false D) 6 (p + 2) := by rw [spPt_s]; unfold spP1; rw [if_neg (by omega), if_pos hU]
  have sX : (bS (lS s tb (120 * tb + a) (c p) y o) (120 * tb + a) o 3).2.2.1 25 = (grS s tb (120 * tb + a) (c p) y o).2.2.1 25 := (B5 25 (by decide) (by decide)).trans (L7 25)
  have sY : (grS s tb (120 * tb + a) (c p) y o).2.2.1 25 = s.2.2.1 25 := (L7 25).symm.trans (L4 25 (by omega) (by decide))
  clear L1 L2 L3 L4 L5 L6 L7 L8 L9 B4 B5 B6 B7 B8
  generalize bS (lS s tb (120 * tb + a) (c p) y o) (120 * tb + a) o 3 = S0 at *
  have step : ∀ fuel, rs m h tb (fuel + 1) p y 2 s = rs m h tb fuel (if c (p + 1) = 40 then p + 2 else -1 - (p + 1)) 0 3 S0 := fun fuel => by rw [rs_2 hp.1 (by omega) let_, B3]
  rw [spTy_R hU]
  by_cases c1 : c (p + 1) = 40
  · rw [if_pos c1] at step ⊢
    have lp1 : p + 1 < 160 := lt_of hv (by omega)
    obtain ⟨J1, J2⟩ := simT_fd E (by omega) (sg := grS s tb (120 * tb + a) (c p) y o) (n := 120 * tb + a) (o := o) (p := p) (x := x) htb (by omega) hp.1 hoD hob.1 k82 (by omega) 5 [] S0 (p + 2) H0 rfl B9 s39 (by rw [s7]; exact h7) (by omega) (by rw [lsz_nil]; show _ ≤ 2 * (p + 2 + 2) + (x - 5 + ((0 : Nat) : Int) * (gsT D - 6)); rw [show ((0 : Nat) : Int) * (gsT D - 6) = 0 from Int.zero_mul _]; omega) (by rw [ePt]; rfl) (exM_0 sX (fun i => ex_nil))
    have er : (([] : List Int).map c).reverse = [] := rfl
    rw [er, show (5 + 1 : Nat) = 6 from rfl] at J1 J2
    have Bb := spFd_b (ty := spTy c D) (lt := spVal c c false D) hv (fun q a b => spTy_b hv D q a b) (fun t q a b => spVal_b hv D t q a b) 6 [] (p + 2) (by omega) (by omega)
    unfold bd at Bb
    refine ⟨fun z => ?_, fun z => ?_⟩
    · obtain ⟨k, S1, a1, a2, a3, a4, aX⟩ := J1 z
      clear J1 J2
      refine ⟨k + 1, mI (mI S1 38 1) 26 o, by omega, fun fuel => by rw [show fuel + (k + 1) = fuel + k + 1 by omega, step, a2], ?_, by rw [eN', eg.2]; omega, exM_c (exM_r (exM_l aX sY) rfl) (fun i => (spX_R hU).symm)⟩
      rw [eN']
      refine hInv_tyP (fsz_1 c D) R' a3 ?_
      obtain ⟨u, i26, i27, i16, i20, -, iN, ich⟩ := a3
      have hne : spPt c (D + 1) p ≠ [] := by rw [ePt, spFl_s]; simp
      refine ⟨⟨by omega, by omega, hp.1, ?_, fun w => by omega⟩, fun w => by omega, fun w => by omega, fun _ => ⟨(iN hne).1, i20, ?_, ich⟩⟩
      · rw [u.2.2.2.2.2.1 17 (by decide) (by decide) (by decide) (by decide), k82, hU]
      · rw [ePt]; exact ⟨_, spFl_s c (spTy c D) (spVal c c false D) 5 (p + 2)⟩
    · obtain ⟨k, S1, a1, a2, a3⟩ := J2 z
      clear J1 J2
      exact ⟨k + 1, S1, by omega, fun fuel => by rw [show fuel + (k + 1) = fuel + k + 1 by omega, step, a2], gl0.trans a3⟩
  · rw [if_neg c1] at step ⊢
    refine ⟨fun z => absurd z (by omega), fun _ => ⟨2, S0, by omega, fun fuel => ?_, gl0⟩⟩
    rw [show fuel + 2 = fuel + 1 + 1 by omega, step]
    exact rs_neg (by omega) (by omega)
/-- any type -/
theorem simT_all {m : Nat} {h : ax_Hp} {c : Int → Int} {tb : Int} : ∀ D, simT m h c tb D
  | 0 => fun s o a p y x R hoD hpar hy h39 h7 hx hg => simT_lf R hoD hpar hy hx hg (Or.inr rfl)
  | D + 1 => fun s o a p y x R hoD hpar hy h39 h7 hx hg => by
    by_cases c1 : c p = 65
    · exact simT_A (simT_all D) R hoD hpar hy h39 h7 hx hg c1
    · by_cases c2 : c p = 85
      · exact simT_U (simT_all D) R hoD hpar hy h39 h7 hx hg c2
      · by_cases c3 : c p = 82
        · exact simT_R (simT_all D) R hoD hpar hy h39 h7 hx hg c3
        · exact simT_lf R hoD hpar hy hx hg (Or.inl (fun z => by rcases z with z | z | z; exact c1 z; exact c2 z; exact c3 z))
