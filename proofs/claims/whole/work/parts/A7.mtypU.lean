theorem ufr_q {sg S : mS} {tb n hi o p q q' : Int} (h : ufr sg S tb n hi o p q) (hq : q ≤ q') : ufr sg S tb n hi o p q' := ⟨h.1, h.2.1, h.2.2.1, h.2.2.2.1, h.2.2.2.2.1, h.2.2.2.2.2.1, h.2.2.2.2.2.2.1, fun i hi => h.2.2.2.2.2.2.2 i (by omega)⟩
theorem hInv_q {sg S : mS} {tb n o p q q' : Int} {sz : Int → Int} {P : (Nat → Nat → Int) → Int → Int → Prop} {L : List Int} (h : hInv sg S tb n o p q sz P L) (hq : q ≤ q') : hInv sg S tb n o p q' sz P L := ⟨ufr_q h.1 hq, h.2⟩
theorem hInv_38 {sg S : mS} {tb n o p q v : Int} {sz : Int → Int} {P : (Nat → Nat → Int) → Int → Int → Prop} {L : List Int} (h : hInv sg S tb n o p q sz P L) : hInv sg (mI S 38 v) tb n o p q sz P L := by
  obtain ⟨⟨u1, u⟩, i26, i⟩ := h
  exact ⟨⟨fun k k1 k2 k3 k4 k5 k6 => by rw [mI_1, if_neg k5]; exact u1 k k1 k2 k3 k4 k5 k6, u⟩, i26, i⟩
/-- a type's reading is one part more of its holder -/
theorem tyP_c {S S' : mS} {c : Int → Int} {tb n' z o q e y : Int} {D : Nat} (o0 : 0 ≤ o) (n0 : 0 ≤ n') (hpar : 0 ≤ S.2.2.1 27 o.toNat ∧ S.2.2.1 27 o.toNat < n' ∧ (S.2.2.1 20 (S.2.2.1 27 o.toNat).toNat ≠ 0 → 0 ≤ S.2.2.1 28 o.toNat ∧ S.2.2.1 28 o.toNat < n')) (h : tyP S S' c tb n' (o + 1) q e y z D) : cFr S S' tb n' z o q e (c q) y := by
  obtain ⟨t1, t26, t2, t3, t16, t16t, t5, t6, ⟨t19, -, -⟩, t27, t28, t25, -⟩ := h
  have o1 : (o + 1 - 1).toNat = o.toNat := by rw [show o + 1 - 1 = o by omega]
  obtain ⟨-, -, -, -, -, -, -, -, g9, -⟩ := grS_f (s := S) (t := tb) (n := n') (x := c q) (y := y) (o := o + 1) n0 (fun _ => by rw [o1]; exact hpar)
  rw [o1] at g9
  exact ⟨t1, t26, t2, t3, t16, t16t, t5, t6, t19, fun i hi => t27 i (by omega), fun i hi => by rw [t28 i (by omega), g9 i, if_neg (by omega)], by rw [t28 o.toNat (by omega), g9, if_pos ⟨by omega, rfl⟩], t25⟩
/-- a letter of the branches so far? -/
theorem seen_iff {c : Int → Int} {L : List Int} {x : Int} : x ∈ (L.map c).reverse ↔ ∃ y ∈ L, c y = x := by
  rw [List.mem_reverse, List.mem_map]
theorem spBl_s (c ty : Int → Int) (k : Nat) (b : Int) : spBl c ty (k + 1) b = b :: if c (ty b) = 44 then spBl c ty k (ty b + 1) else [] := rfl
def brP (c : Int → Int) (D : Nat) (A : Nat → Nat → Int) (m x : Int) : Prop := c x ≠ 85 ∧ NdS A c D m x
def brS (m : Nat) (h : ax_Hp) (c : Int → Int) (tb : Int) (D : Nat) (sg : mS) (n o p x : Int) (r : Nat) : Prop := ∀ (L : List Int) (S : mS) (q : Int), hInv sg S tb n o p q (spN c D) (brP c D) L → L.length + (r + 1) = 4 → isT S tb c → S.1 39 = 0 → (0 ≤ S.1 7 ∧ S.1 7 ≤ 1000000) → (p + 2 ≤ q ∧ q ≤ 160) → 3 * (n + 1 + lsz (spN c D) L - 120 * tb) ≤ 2 * q + (x - 1 + (L.length : Int) * (hsT D - 2)) → spPt c (D + 1) p = L ++ spBl c (spTy c D) (r + 1) q → exM sg S (fun i => ∃ y ∈ L, spX c D y i) tb →
    (0 ≤ spBr c (spTy c D) (r + 1) (L.map c).reverse q → ∃ (k : Nat) (S1 : mS), (k : Int) ≤ 4 * (spBr c (spTy c D) (r + 1) (L.map c).reverse q - q) ∧ (∀ fuel, rs m h tb (fuel + k) q 0 2 S = rs m h tb fuel (spBr c (spTy c D) (r + 1) (L.map c).reverse q) 0 1 (mI (mI S1 38 1) 26 o)) ∧ hInv sg S1 tb n o p (spBr c (spTy c D) (r + 1) (L.map c).reverse q) (spN c D) (brP c D) (spPt c (D + 1) p) ∧ 3 * (n + 1 + lsz (spN c D) (spPt c (D + 1) p) - 120 * tb) ≤ 2 * spBr c (spTy c D) (r + 1) (L.map c).reverse q + x + gsT (D + 1) ∧ exM sg S1 (fun i => ∃ y ∈ spPt c (D + 1) p, spX c D y i) tb) ∧
    (spBr c (spTy c D) (r + 1) (L.map c).reverse q < 0 → ∃ (k : Nat) (S' : mS), (k : Int) ≤ 4 * (170 - q) ∧ (∀ fuel, rs m h tb (fuel + k) q 0 2 S = some (.inl (some (ax_I (Int32.ofInt (-1 - spBr c (spTy c D) (r + 1) (L.map c).reverse q)))), mH h S')) ∧ glF S S')
theorem mI_gl (S : mS) (v : Int) : glF S (mI S 38 v) := ⟨fun k _ _ _ _ _ k6 _ => by rw [mI_1, if_neg k6], rfl, fun _ _ _ _ _ _ _ _ _ _ => rfl⟩
set_option maxHeartbeats 8000000 in
theorem simT_br1 {m : Nat} {h : ax_Hp} {c : Int → Int} {tb : Int} {D : Nat} (E : simT m h c tb D) (hD : D ≤ 5) {sg : mS} {n o p x : Int} (htb : tb = 0 ∨ tb = 1) (hn : 120 * tb ≤ n) (hp0 : 0 ≤ p) (ho : o + ((D + 1 : Nat) : Int) = 6) (o0 : 0 ≤ o) (k85 : sg.2.2.1 17 n.toNat = 85) (hg : x + gfT (D + 1) ≤ 40) (r : Nat) (ih : ∀ r', r = r' + 1 → brS m h c tb D sg n o p x r') : brS m h c tb D sg n o p x r := by
  intro L S q I hr T h39 h7 hq hb hpt M
  have I' := I
  obtain ⟨u, i26, i27, i16, i20, iE, iN, ich⟩ := I
  have zN := T.2.1
  have hc := T.2.2.2.1
  have bq := T.2.2.2.2 q
  have hv : ∀ q, 160 ≤ q → c q = 0 := fun q hq => hc q (by omega)
  have ln := lsz_nn (spN_1 c D) L
  have o1 : (o + 1 - 1).toNat = o.toNat := by rw [show o + 1 - 1 = o by omega]
  have m17 : S.2.2.1 17 n.toNat = 85 := by rw [u.2.2.2.2.2.1 17 (by decide) (by decide) (by decide) (by decide)]; exact k85
  have gU := gT_U D hD L.length (by omega)
  have gA := gT_A D hD
  have g1 := g_1 c D q
  have nlt : n + 1 + lsz (spN c D) L < 120 * tb + 120 := by
    have hh : 1 ≤ hfT D := by have := g_1 (fun _ => 0) D 0; unfold gF at this; rw [if_neg (by decide)] at this; exact this.2
    omega
  -- the branches so far, as a chain
  have chn : ndCh (S.2.2.1 19) (fun k w => S.2.2.1 17 k.toNat = c w) (S.2.2.1 18 n.toNat) L := by
    by_cases hL : L = []
    · rw [hL, iE hL]; rfl
    · rw [(iN hL).1]
      exact pch_nd (spN_1 c D) L (n + 1) (by omega) (by omega) (fun k w _ _ z => (NdS_lf z.2).2.2.2.1) hL ich
  rw [spBr_s]
  by_cases c1 : c q = 85 ∨ c q ∈ (L.map c).reverse
  · rw [if_pos c1]
    refine ⟨fun z => absurd z (by omega), fun _ => ⟨2, S, by omega, fun fuel => ?_, glF_refl S⟩⟩
    have mb := Model_mayBegin_u (m := m + 6) (h := h) (s := S) (c := c) (P := fun k w => S.2.2.1 17 k.toNat = c w) (x := c q) (o := o + 1) (l := L) i26 (by omega) (by omega) bq.1 bq.2 (by rw [o1, i27]; omega) (by rw [o1, i27]; omega) (by rw [o1, i27]; exact m17) (fun k w z => ⟨z, (T.2.2.2.2 w).1, by have := (T.2.2.2.2 w).2; omega⟩) (by rw [o1, i27]; exact chn) (by omega) (c1.elim Or.inl (fun z => Or.inr (seen_iff.mp z)))
    rw [show fuel + 2 = fuel + 1 + 1 by omega, rs_2 (by omega) (by omega) (Model_letter_no (m := m + 5) T htb (by omega) mb)]
    exact rs_neg (by omega) (by omega)
  · rw [if_neg c1]
    have n85 : c q ≠ 85 := fun z => c1 (Or.inl z)
    have ns : ∀ y ∈ L, c y ≠ c q := fun y hy z => c1 (Or.inr (seen_iff.mpr ⟨y, hy, z⟩))
    have eg : gF c D q = hfT D ∧ gS c D q = hsT D := by unfold gF gS; rw [if_neg n85, if_neg n85]; exact ⟨rfl, rfl⟩
    have R0 : pr0 S c tb (o + 1) (n + 1 + lsz (spN c D) L - 120 * tb) q := by
      refine ⟨T, htb, i26, by omega, i16, by omega, by omega, fun _ => ?_⟩
      rw [o1, i27, i20]
      refine ⟨by omega, by omega, by omega, by omega, fun z => ?_⟩
      have hL : L ≠ [] := fun w => by rw [w] at z; exact z rfl
      have := (iN hL).2
      have hd := lsz_nn (spN_1 c D) L.dropLast
      have hlt := lsz_drop (spN_1 c D) L hL
      omega
    have par0 : parOk S c (o + 1) (c q) := by
      refine Or.inr (Or.inr ?_)
      rw [o1, i27]
      exact ⟨by omega, by omega, m17, n85, fun k w => S.2.2.1 17 k.toNat = c w, L, fun k w z => ⟨z, (T.2.2.2.2 w).1, by have := (T.2.2.2.2 w).2; omega⟩, chn, by omega, ns⟩
    obtain ⟨I1, I2⟩ := E S (o + 1) (n + 1 + lsz (spN c D) L - 120 * tb) q 0 (x - 1 + (L.length : Int) * (hsT D - 2)) R0 (by omega) par0 (by omega) h39 h7 hb (by omega)
    have B := spTy_b hv D q (by omega) (by omega)
    unfold bd at B
    by_cases c2 : spTy c D q < 0
    · rw [if_pos c2]
      refine ⟨fun z => absurd z (by omega), fun _ => ?_⟩
      exact I2 c2
    · rw [if_neg c2]
      obtain ⟨k, S1, k1, k2, k3, k4, kX⟩ := I1 (by omega)
      clear I1 I2
      have M1 : exM sg S1 (fun i => ∃ y ∈ L ++ [q], spX c D y i) tb := exM_c (M.trans kX) (fun i => ex_app.symm)
      have k3' := k3
      obtain ⟨t1, t26, t2, t3, t16, t16t, t5, t6, t19, t27, t28, t25, tN⟩ := k3
      rw [show 120 * tb + (n + 1 + lsz (spN c D) L - 120 * tb) = n + 1 + lsz (spN c D) L by omega] at k3' tN
      have F := tyP_c o0 (by omega) (by
        rw [i27, i20]
        refine ⟨by omega, by omega, fun z => ?_⟩
        have hL : L ≠ [] := fun w => by rw [w] at z; exact z rfl
        have := (iN hL).2
        have hd := lsz_nn (spN_1 c D) L.dropLast
        have hlt := lsz_drop (spN_1 c D) L hL
        omega) k3'
      have H := hStep (P := brP c D) (spN_1 c D) (by omega) o0 (by omega) I' F ⟨n85, tN⟩ (fun k w a b g ag z => ⟨z.1, NdS_fr D k w (fun j hj i b1 b2 => ag j (by omega) (by omega) i b1 b2 (Or.inl (by omega))) (fun j hj i b1 b2 => ag j (by omega) (by omega) i (by omega) b2 (Or.inr b1)) z.2⟩)
      have T1 : isT S1 tb c := isT_of T (t3 15 (by omega) (by decide) (by decide) (by decide) (by decide) (by decide) (by decide) (by decide)) (t3 14 (by omega) (by decide) (by decide) (by decide) (by decide) (by decide) (by decide) (by decide))
      have H' := H
      obtain ⟨v, j26, j27, j16, j20, -, jN, jch⟩ := H
      have q17 : S1.2.2.1 17 n.toNat = 85 := by rw [v.2.2.2.2.2.1 17 (by decide) (by decide) (by decide) (by decide)]; exact k85
      have lA : (L ++ [q]).length = L.length + 1 := by rw [List.length_append]; rfl
      have zA : lsz (spN c D) (L ++ [q]) = lsz (spN c D) L + spN c D q := by rw [lsz_app, lsz_cons, lsz_nil, Int.add_zero]
      have be := Model_beh_UR (m := m + 6) (h := h) (s := S1) (c := c) (tb := tb) (p := spTy c D q) (o := o + 1) (n := n) (k := 85) (mn := ((L.length + 1 : Nat) : Int)) T1 htb (by omega) t26 (by omega) (by omega) (by rw [o1]; exact j27) (by omega) (by omega) q17 (Or.inl rfl) (by rw [j20, lA]) (by omega) (by omega) (fun z => absurd z (by decide))
      rw [if_pos rfl, if_pos rfl] at be
      have gl1 : glF S S1 := k3'.gl
      clear t1 t2 t3 t16 t16t t5 t6 t19 t27 t28 t25 v jN jch ich iN iE u
      by_cases c3 : (L.map c).reverse ≠ [] ∧ c (spTy c D q) = 41
      · -- the end
        rw [if_pos c3]
        have hL : 0 < L.length := by
          refine Nat.pos_of_ne_zero fun z => c3.1 ?_
          rw [List.length_eq_zero_iff.mp z]; rfl
        have lq : spTy c D q < 160 := lt_of hv (by omega)
        rw [if_neg (show ¬ (c (spTy c D q) = 44 ∧ ((L.length + 1 : Nat) : Int) < 4) by omega), if_pos (show c (spTy c D q) = 41 ∧ ((85 : Int) = 82 ∨ 1 < ((L.length + 1 : Nat) : Int)) from ⟨c3.2, Or.inr (by omega)⟩)] at be
        have hpt2 : spPt c (D + 1) p = L ++ [q] := by rw [hpt, spBl_s, if_neg (by omega)]
        refine ⟨fun _ => ⟨k + 1, S1, by omega, fun fuel => ?_, ?_, ?_, by rw [hpt2]; exact M1⟩, fun z => absurd z (by omega)⟩
        · rw [show fuel + (k + 1) = fuel + 1 + k by omega, k2, rs_1 (by omega) (by omega) be, show o + 1 - 1 = o by omega]
          rfl
        · rw [hpt2]; exact hInv_q H' (by omega)
        · rw [hpt2, zA]; omega
      · rw [if_neg c3]
        by_cases c4 : r = 0 ∨ c (spTy c D q) ≠ 44
        · rw [if_pos c4]
          rw [if_neg (show ¬ (c (spTy c D q) = 44 ∧ ((L.length + 1 : Nat) : Int) < 4) by omega), if_neg (show ¬ (c (spTy c D q) = 41 ∧ ((85 : Int) = 82 ∨ 1 < ((L.length + 1 : Nat) : Int))) from fun z => c3 ⟨fun w => by
            have hl : L.length = 0 := by have := congrArg List.length w; rw [List.length_reverse, List.length_map] at this; exact this
            omega, z.1⟩)] at be
          refine ⟨fun z => absurd z (by omega), fun _ => ⟨k + 2, mI S1 38 1, by omega, fun fuel => ?_, gl1.trans (mI_gl S1 1)⟩⟩
          rw [show fuel + (k + 2) = fuel + 1 + 1 + k by omega, k2, rs_1 (by omega) (by omega) be]
          exact rs_neg (by omega) (by omega)
        · rw [if_neg c4]
          obtain ⟨r', hr'⟩ : ∃ r', r = r' + 1 := ⟨r - 1, by omega⟩
          have v44 : c (spTy c D q) = 44 := Decidable.byContradiction fun z => c4 (Or.inr z)
          have lq : spTy c D q < 160 := lt_of hv (by omega)
          rw [if_pos (show c (spTy c D q) = 44 ∧ ((L.length + 1 : Nat) : Int) < 4 from ⟨v44, by omega⟩)] at be
          have step : ∀ fuel, rs m h tb (fuel + 1 + k) q 0 2 S = rs m h tb fuel (spTy c D q + 1) 0 2 (mI (mI S1 38 1) 38 2) := fun fuel => by
            rw [k2, rs_1 (by omega) (by omega) be]
            rfl
          have s39 : (mI (mI S1 38 1) 38 2).1 39 = 0 := (gl1.1 39 (by decide) (by decide) (by decide) (by decide) (by decide) (by decide) (by decide)).trans h39
          have s7 : (mI (mI S1 38 1) 38 2).1 7 = S.1 7 := k3'.1 7 (by decide) (by decide) (by decide) (by decide) (by decide) (by decide)
          have em : (((L ++ [q]).length : Nat) : Int) * (hsT D - 2) = (L.length : Int) * (hsT D - 2) + (hsT D - 2) := by
            rw [lA, show ((L.length + 1 : Nat) : Int) = (L.length : Int) + 1 by omega, Int.add_mul, Int.one_mul]
          obtain ⟨J1, J2⟩ := ih r' hr' (L ++ [q]) (mI (mI S1 38 1) 38 2) (spTy c D q + 1) (hInv_38 (hInv_38 (hInv_q H' (by omega)))) (by rw [lA]; omega) (isT_of T1 rfl rfl) s39 (by rw [s7]; exact h7) (by omega) (by rw [zA, em]; omega) (by rw [hpt, spBl_s, if_pos v44, List.append_assoc, hr']; rfl) (exM_r M1 rfl)
          have er : ((L ++ [q]).map c).reverse = c q :: (L.map c).reverse := by rw [List.map_append, List.reverse_append]; rfl
          rw [er, ← hr'] at J1 J2
          have Bb := spBr_b (ty := spTy c D) hv (fun q a b => spTy_b hv D q a b) r (c q :: (L.map c).reverse) (spTy c D q + 1) (by omega) (by omega)
          unfold bd at Bb
          refine ⟨fun z => ?_, fun z => ?_⟩
          · obtain ⟨k', S2, a1, a2, a3, a4⟩ := J1 z
            clear J1 J2
            exact ⟨k' + k + 1, S2, by omega, fun fuel => by rw [show fuel + (k' + k + 1) = fuel + k' + 1 + k by omega, step, a2], a3, a4⟩
          · obtain ⟨k', S2, a1, a2, a3⟩ := J2 z
            clear J1 J2
            exact ⟨k' + k + 1, S2, by omega, fun fuel => by rw [show fuel + (k' + k + 1) = fuel + k' + 1 + k by omega, step, a2], gl1.trans ((mI_gl S1 1).trans ((mI_gl _ 2).trans a3))⟩
theorem simT_br {m : Nat} {h : ax_Hp} {c : Int → Int} {tb : Int} {D : Nat} (E : simT m h c tb D) (hD : D ≤ 5) {sg : mS} {n o p x : Int} (htb : tb = 0 ∨ tb = 1) (hn : 120 * tb ≤ n) (hp0 : 0 ≤ p) (ho : o + ((D + 1 : Nat) : Int) = 6) (o0 : 0 ≤ o) (k85 : sg.2.2.1 17 n.toNat = 85) (hg : x + gfT (D + 1) ≤ 40) : ∀ r, brS m h c tb D sg n o p x r
  | 0 => simT_br1 E hD htb hn hp0 ho o0 k85 hg 0 (fun r' h => absurd h (by omega))
  | r + 1 => simT_br1 E hD htb hn hp0 ho o0 k85 hg (r + 1) (fun r' h => by
    have : r' = r := by omega
    rw [this]
    exact simT_br E hD htb hn hp0 ho o0 k85 hg r)
