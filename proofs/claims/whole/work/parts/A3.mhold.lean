/-- what parts of a type, read behind its holder n's letter, leave as it was: below n, from hi on, the frames below o, the marks outside p .. q -/
def ufr (sg S : mS) (tb n hi o p q : Int) : Prop := (∀ k, k ≠ 26 → k ≠ 29 → k ≠ 30 → k ≠ 31 → k ≠ 38 → k ≠ 40 → S.1 k = sg.1 k) ∧ S.2.2.2 = sg.2.2.2 ∧ (∀ k, (k < 16 ∨ 25 < k) → k ≠ 27 → k ≠ 28 → k ≠ 32 → k ≠ 33 → k ≠ 34 → k ≠ 35 → k ≠ 41 → S.2.2.1 k = sg.2.2.1 k) ∧ (∀ i : Nat, i ≠ tb.toNat → S.2.2.1 16 i = sg.2.2.1 16 i) ∧ (∀ k, 17 ≤ k → k ≤ 24 → ∀ i : Nat, ((i : Int) < n ∨ hi ≤ i) → S.2.2.1 k i = sg.2.2.1 k i) ∧ (∀ k, 17 ≤ k → k ≤ 24 → k ≠ 18 → k ≠ 20 → S.2.2.1 k n.toNat = sg.2.2.1 k n.toNat) ∧ (∀ k, k = 27 ∨ k = 28 → ∀ i : Nat, (i : Int) < o → S.2.2.1 k i = sg.2.2.1 k i) ∧ (∀ i : Nat, ((i : Int) < 160 * tb + p ∨ 160 * tb + q ≤ i) → S.2.2.1 25 i = sg.2.2.1 25 i)
/-- the holder n with its parts L so far -/
def hInv (sg S : mS) (tb n o p q : Int) (sz : Int → Int) (P : (Nat → Nat → Int) → Int → Int → Prop) (L : List Int) : Prop := ufr sg S tb n (n + 1 + lsz sz L) o p q ∧ S.1 26 = o + 1 ∧ S.2.2.1 27 o.toNat = n ∧ S.2.2.1 16 tb.toNat = n + 1 + lsz sz L - 120 * tb ∧ S.2.2.1 20 n.toNat = L.length ∧ (L = [] → S.2.2.1 18 n.toNat = -1) ∧ (L ≠ [] → S.2.2.1 18 n.toNat = n + 1 ∧ S.2.2.1 28 o.toNat = n + 1 + lsz sz L.dropLast) ∧ pch (S.2.2.1 19) sz (P S.2.2.1) (n + 1) L
/-- one part more: from S to S', its node n', called y -/
def cFr (S S' : mS) (tb n' z o q q' x y : Int) : Prop := (∀ k, k ≠ 26 → k ≠ 29 → k ≠ 30 → k ≠ 31 → k ≠ 38 → k ≠ 40 → S'.1 k = S.1 k) ∧ S'.1 26 = o + 1 ∧ S'.2.2.2 = S.2.2.2 ∧ (∀ k, (k < 16 ∨ 25 < k) → k ≠ 27 → k ≠ 28 → k ≠ 32 → k ≠ 33 → k ≠ 34 → k ≠ 35 → k ≠ 41 → S'.2.2.1 k = S.2.2.1 k) ∧ (∀ i : Nat, i ≠ tb.toNat → S'.2.2.1 16 i = S.2.2.1 16 i) ∧ S'.2.2.1 16 tb.toNat = n' + z - 120 * tb ∧ (∀ k, 17 ≤ k → k ≤ 24 → ∀ i : Nat, (i : Int) < n' → S'.2.2.1 k i = (grS S tb n' x y (o + 1)).2.2.1 k i) ∧ (∀ k, 17 ≤ k → k ≤ 24 → ∀ i : Nat, n' + z ≤ i → S'.2.2.1 k i = S.2.2.1 k i) ∧ S'.2.2.1 19 n'.toNat = -1 ∧ (∀ i : Nat, (i : Int) ≤ o → S'.2.2.1 27 i = S.2.2.1 27 i) ∧ (∀ i : Nat, (i : Int) < o → S'.2.2.1 28 i = S.2.2.1 28 i) ∧ S'.2.2.1 28 o.toNat = n' ∧ (∀ i : Nat, ((i : Int) < 160 * tb + q ∨ 160 * tb + q' ≤ i) → S'.2.2.1 25 i = S.2.2.1 25 i)
theorem lsz_drop {sz : Int → Int} (hz : ∀ x, 1 ≤ sz x) : ∀ (L : List Int), L ≠ [] → lsz sz L.dropLast < lsz sz L
  | [], h => absurd rfl h
  | [x], _ => by rw [lsz_cons, lsz_nil]; show (0 : Int) < _; have := hz x; omega
  | x :: y :: l, _ => by
    rw [List.dropLast_cons_of_ne_nil (by simp), lsz_cons, lsz_cons _ x]
    have := lsz_drop hz (y :: l) (by simp)
    omega
theorem hStep {sg S S' : mS} {tb n o p q q' x y v : Int} {sz : Int → Int} {P : (Nat → Nat → Int) → Int → Int → Prop} {L : List Int} (hz : ∀ x, 1 ≤ sz x) (n0 : 0 ≤ n) (o0 : 0 ≤ o) (hq : p ≤ q ∧ q ≤ q') (I : hInv sg S tb n o p q sz P L) (F : cFr S S' tb (n + 1 + lsz sz L) (sz v) o q q' x y)
    (hP : P S'.2.2.1 (n + 1 + lsz sz L) v)
    (hst : ∀ k w, n + 1 ≤ k → k + sz w ≤ n + 1 + lsz sz L → (k + sz w ≤ n + 1 + lsz sz L.dropLast ∨ k = n + 1 + lsz sz L.dropLast) → (∀ j, 17 ≤ j → j ≤ 24 → ∀ i : Nat, k ≤ i → (i : Int) < k + sz w → (j ≠ 19 ∨ k < i) → S'.2.2.1 j i = S.2.2.1 j i) → P S.2.2.1 k w → P S'.2.2.1 k w) : hInv sg S' tb n o p q' sz P (L ++ [v]) := by
  obtain ⟨⟨u1, u2, u3, u4, u5, u6, u7, u8⟩, i26, i27, i16, i20, -, i18, ich⟩ := I
  obtain ⟨c1, c26, c2, c3, c16, c16t, c5, c6, c19, c27, c28, c28o, c25⟩ := F
  have ln := lsz_nn hz L
  have e1 : lsz sz (L ++ [v]) = lsz sz L + sz v := by rw [lsz_app, lsz_cons, lsz_nil, Int.add_zero]
  have hv := hz v
  have o1 : (o + 1 - 1).toNat = o.toNat := by rw [show o + 1 - 1 = o by omega]
  -- what grow did here
  have G := grS_f (s := S) (t := tb) (n := n + 1 + lsz sz L) (x := x) (y := y) (o := o + 1) (by omega) (fun _ => by
    rw [o1, i27]
    refine ⟨n0, by omega, fun w => ?_⟩
    have hL : L ≠ [] := fun z => by rw [i20, z] at w; exact w rfl
    have := (i18 hL).2
    have hd := lsz_nn hz L.dropLast
    have := lsz_drop hz L hL
    omega)
  rw [o1, i27, i20] at G
  obtain ⟨g1, g2, g3, g4, g5, g6, g7, g8, g9, g10⟩ := G
  -- the nodes below the new one
  have b17 : ∀ j, j = 17 ∨ j = 21 ∨ j = 22 ∨ j = 23 ∨ j = 24 → ∀ i : Nat, (i : Int) < n + 1 + lsz sz L → S'.2.2.1 j i = S.2.2.1 j i := fun j hj i hi => (c5 j (by omega) (by omega) i hi).trans (g5 j hj i (by omega))
  have b18 : ∀ i : Nat, (i : Int) < n + 1 + lsz sz L → i ≠ n.toNat → S'.2.2.1 18 i = S.2.2.1 18 i := fun i hi hn => (c5 18 (by omega) (by omega) i hi).trans ((g6 i (by omega)).trans (if_neg (fun z => hn z.2.2)))
  have b20 : ∀ i : Nat, (i : Int) < n + 1 + lsz sz L → i ≠ n.toNat → S'.2.2.1 20 i = S.2.2.1 20 i := fun i hi hn => (c5 20 (by omega) (by omega) i hi).trans ((g8 i (by omega)).trans (if_neg (fun z => hn z.2)))
  have b19 : ∀ i : Nat, (i : Int) < n + 1 + lsz sz L → (L ≠ [] → (i : Int) ≠ n + 1 + lsz sz L.dropLast) → S'.2.2.1 19 i = S.2.2.1 19 i := fun i hi hn => by
    refine (c5 19 (by omega) (by omega) i hi).trans ((g7 i (by omega)).trans (if_neg (fun z => ?_)))
    have hL : L ≠ [] := fun w => by rw [w] at z; exact z.2.1 rfl
    have h1 := (i18 hL).2
    have h2 := hn hL
    have hd := lsz_nn hz L.dropLast
    omega
  refine ⟨⟨fun k k1 k2 k3 k4 k5 k6 => (c1 k k1 k2 k3 k4 k5 k6).trans (u1 k k1 k2 k3 k4 k5 k6), c2.trans u2, fun k k1 k2 k3 k4 k5 k6 k7 k8 => (c3 k k1 k2 k3 k4 k5 k6 k7 k8).trans (u3 k k1 k2 k3 k4 k5 k6 k7 k8), fun i hi => (c16 i hi).trans (u4 i hi), fun k k1 k2 i hi => ?_, fun k k1 k2 k3 k4 => ?_, fun k hk i hi => ?_, fun i hi => ?_⟩, c26, ?_, by rw [c16t, e1]; omega, ?_, fun z => absurd z (by simp), fun _ => ⟨?_, ?_⟩, ?_⟩
  · rw [e1] at hi
    rcases hi with hi | hi
    · refine Eq.trans ?_ (u5 k k1 k2 i (Or.inl hi))
      by_cases j18 : k = 18
      · rw [j18]; exact b18 i (by omega) (by omega)
      · by_cases j20 : k = 20
        · rw [j20]; exact b20 i (by omega) (by omega)
        · by_cases j19 : k = 19
          · rw [j19]; exact b19 i (by omega) (fun hL => by have := lsz_nn hz L.dropLast; omega)
          · exact b17 k (by omega) i (by omega)
    · exact (c6 k k1 k2 i (by omega)).trans (u5 k k1 k2 i (Or.inr (by omega)))
  · refine Eq.trans ?_ (u6 k k1 k2 k3 k4)
    by_cases j19 : k = 19
    · rw [j19]; exact b19 n.toNat (by omega) (fun hL => by have := lsz_nn hz L.dropLast; omega)
    · exact b17 k (by omega) n.toNat (by omega)
  · refine Eq.trans ?_ (u7 k hk i hi)
    rcases hk with rfl | rfl
    · exact c27 i (by omega)
    · exact c28 i hi
  · exact (c25 i (by omega)).trans (u8 i (by omega))
  · rw [c27 o.toNat (by omega)]; exact i27
  · rw [c5 20 (by omega) (by omega) n.toNat (by omega), g8 n.toNat (by omega), if_pos ⟨by omega, rfl⟩, i20, List.length_append, List.length_singleton]
    omega
  · rw [c5 18 (by omega) (by omega) n.toNat (by omega), g6 n.toNat (by omega)]
    by_cases hL : L = []
    · rw [if_pos ⟨by omega, by rw [hL]; rfl, rfl⟩, hL, lsz_nil]; omega
    · rw [if_neg (fun z => hL (List.length_eq_zero_iff.mp (by have := z.2.1; omega)))]
      exact (i18 hL).1
  · rw [c28o, List.dropLast_concat]
  · refine pch_snoc hz L (n + 1) (by omega) (fun k w a b g pw => hst k w a b g (fun j j1 j2 i ia ib ij => ?_) pw) (fun i a b d => ?_) (fun hL => ?_) hP c19 ich
    · by_cases j18 : j = 18
      · rw [j18]; exact b18 i (by omega) (by omega)
      · by_cases j20 : j = 20
        · rw [j20]; exact b20 i (by omega) (by omega)
        · by_cases j19 : j = 19
          · rw [j19]
            exact b19 i (by omega) (fun hL => by omega)
          · exact b17 j (by omega) i (by omega)
    · exact b19 i (by omega) (fun _ => d)
    · have h1 := (i18 hL).2
      have hd := lsz_nn hz L.dropLast
      have hlt := lsz_drop hz L hL
      rw [c5 19 (by omega) (by omega) (n + 1 + lsz sz L.dropLast).toNat (by omega), g7 _ (by omega), if_pos ⟨by omega, fun z => hL (List.length_eq_zero_iff.mp (by omega)), by rw [h1]⟩]
