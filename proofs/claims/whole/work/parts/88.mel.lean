theorem mul_split (w a b : Int) : w * (a + b + 1) = w * a + w * b + w := by rw [Int.mul_add, Int.mul_add, Int.mul_one]
/-- as els, but that array a0, opened before, gets its number x -/
def elx (a0 x : Int) (s s' : mS) (l : List Int) : Prop := s'.1 40 = s.1 40 + l.length ∧ (∀ i : Nat, (i : Int) < s.1 40 → s'.2.2.1 41 i = if s.1 39 ≠ 1 ∧ (i : Int) = a0 then x else s.2.2.1 41 i) ∧ (s.1 39 ≠ 1 → ∀ j : Nat, j < l.length → s'.2.2.1 41 (s.1 40 + j).toNat = l.getD j 0) ∧ (s.1 39 = 1 → s'.2.2.1 41 = s.2.2.1 41)
theorem elx.pre {a0 x : Int} {s s1 s2 : mS} {l k : List Int} (h0 : 0 ≤ s.1 40) (ha : a0 < s.1 40) (hsp : s1.1 39 = s.1 39) (h : els s s1 l) (h1 : elx a0 x s1 s2 k) : elx a0 x s s2 (l ++ k) := by
  obtain ⟨a1, a2, a3, a4⟩ := h
  obtain ⟨b1, b2, b3, b4⟩ := h1
  refine ⟨by rw [b1, a1, List.length_append]; omega, fun i hi => ?_, fun z j hj => ?_, fun z => (b4 (by omega)).trans (a4 z)⟩
  · rw [b2 i (by omega), hsp, a2 i hi]
  · rw [List.length_append] at hj
    by_cases c : j < l.length
    · rw [b2 (s.1 40 + j).toNat (by omega), if_neg (by omega), a3 z j c]
      rw [List.getD_eq_getElem?_getD, List.getD_eq_getElem?_getD, List.getElem?_append_left c]
    · have := b3 (by omega) (j - l.length) (by omega)
      rw [show (s1.1 40 + ((j - l.length : Nat) : Int)).toNat = (s.1 40 + j).toNat by omega] at this
      rw [this, List.getD_eq_getElem?_getD, List.getD_eq_getElem?_getD, List.getElem?_append_right (by omega)]
theorem spElO_s (sp : Int) (v f : Int → Int) (g : Int → List Int) (k : Nat) (q : Int) : spElO sp v f g (k + 1) q = g q ++ (if v (f q) = 93 then [] else (if sp = 2 then [44] else []) ++ spElO sp v f g k (f q + 1)) := rfl
theorem spElN_s (v f : Int → Int) (k : Nat) (q : Int) : spElN v f (k + 1) q = 1 + (if v (f q) = 93 then 0 else spElN v f k (f q + 1)) := rfl
theorem spElA_s (v f : Int → Int) (g : Int → List Int) (k : Nat) (q : Int) : spElA v f g (k + 1) q = g q ++ (if v (f q) = 93 then [] else spElA v f g k (f q + 1)) := rfl
/-- the elements of an array, r of them may come yet -/
theorem sim_els {m : Nat} {h : ax_Hp} {c v : Int → Int} {val : Bool} (hv : ∀ p, 160 ≤ p → v p = 0) {D : Nat} (E : simE m h c v val D (re m h) (fun _ => True)) {n t cn a0 : Int} (n0 : 0 ≤ n) (n1 : n < 240) : ∀ (r : Nat) (s : mS) (d q j : Int), tcx c v val s (d + 1) q → s.1 7 + 40 * (200 - q) + 2 * D ≤ 500000000 → 0 ≤ d → d + 1 + D ≤ 8 → s.1 38 = 2 → s.2.2.1 17 n.toNat = 65 → s.2.2.1 32 d.toNat = n → s.2.2.1 33 d.toNat = cn → s.2.2.1 34 d.toNat = j → s.2.2.1 35 d.toNat = a0 → 0 ≤ a0 → a0 < s.1 40 → Nd s.2.2.1 c D cn (t + 1) → 0 ≤ j → j + r = mst val → 0 < r → elh s (spElA v (spVal c v val D (t + 1)) (spA c v val D (t + 1)) r q) →
    (0 ≤ spEl v (spVal c v val D (t + 1)) r q → ∃ (k : Nat) (s' : mS), (k : Int) ≤ 2 * (spEl v (spVal c v val D (t + 1)) r q - q) ∧ (∀ fuel, rt m h (fuel + k) q s = rt m h fuel (spEl v (spVal c v val D (t + 1)) r q) s') ∧ txF s s' ∧ s'.1 31 = d ∧ s'.1 38 = 1 ∧ stk d s s' ∧ said s s' (spElO (s.1 39) v (spVal c v val D (t + 1)) (spO (s.1 39) c v val D (t + 1)) r q ++ (if s.1 39 = 1 then [0] else if s.1 39 = 2 then [93] else [])) ∧ elx a0 (j + spElN v (spVal c v val D (t + 1)) r q) s s' (spElA v (spVal c v val D (t + 1)) (spA c v val D (t + 1)) r q) ∧ 2 * ((spElA v (spVal c v val D (t + 1)) (spA c v val D (t + 1)) r q).length : Int) ≤ spEl v (spVal c v val D (t + 1)) r q - q - 1 ∧ ((spElO (s.1 39) v (spVal c v val D (t + 1)) (spO (s.1 39) c v val D (t + 1)) r q).length : Int) ≤ (16 + 2 * D) * (spEl v (spVal c v val D (t + 1)) r q - q - 1)) ∧
    (spEl v (spVal c v val D (t + 1)) r q < 0 → ∃ (k : Nat) (s' : mS), (k : Int) ≤ 2 * (171 - q) ∧ (∀ fuel, rt m h (fuel + k) q s = some (.inl (some (ax_I (Int32.ofInt (spEl v (spVal c v val D (t + 1)) r q)))), mH h s')) ∧ txG s s') := by
  intro r
  induction r with
  | zero => intro s d q j _ _ _ _ _ _ _ _ _ _ _ _ _ _ _ hr; exact absurd hr (Nat.lt_irrefl _)
  | succ r ih =>
    intro s d q j X hB d0 hD h38 hk hfr hpt hnu hea a00 a01 N j0 hjr _ hel
    have X' := X
    obtain ⟨x1, x2, x3, x4, x5, x6, x7, x8, x9, x10⟩ := X
    have hj20 : j < 20 := by have : mst val ≤ 20 := by unfold mst; split <;> decide
                             omega
    rw [spElA_s] at hel
    have B := spVal_b (c := c) (val := val) hv D (t + 1) q x10.1 x10.2
    unfold bd at B
    obtain ⟨E1, E2⟩ := E s (d + 1) q cn (t + 1) trivial X' hB hD N (elh_l hel)
    rw [spEl_s, spElO_s, spElN_s, spElA_s]
    have h1 : ∀ fuel, rt m h (fuel + 1) q s = re m h fuel cn q s := fun fuel => rt_ent x10.1 (by omega) h38 x6 d0 (by omega) hpt
    by_cases c1 : spVal c v val D (t + 1) q < 0
    · rw [if_pos c1]
      refine ⟨fun z => absurd z (by omega), fun _ => ?_⟩
      obtain ⟨k, s', k1, k2, k3⟩ := E2 c1
      exact ⟨k + 1, s', by omega, fun fuel => by rw [← Nat.add_assoc, h1, k2], k3⟩
    · rw [if_neg c1]
      obtain ⟨k, s1, k1, k2, ⟨F, f31, f38, fst, fsd, fel⟩, fa, fo⟩ := E1 (by omega)
      clear E1 E2
      generalize hf : spVal c v val D (t + 1) q = fq at *
      have fq0 : 0 ≤ fq ∧ q < fq ∧ fq ≤ 160 := by omega
      have b := isV_b x3 fq
      have y39 := txF_39 F
      have y7 := said_1 fsd
      have y40 := fel.1
      have lo : ((spO (s.1 39) c v val D (t + 1) q).length : Int) ≤ 32 * (fq - q) := by
        have : (16 + 2 * (D : Int)) * (fq - q) ≤ 32 * (fq - q) := Int.mul_le_mul_of_nonneg_right (by omega) (by omega)
        omega
      have V1 : isV s1 v := txF_isV F x3
      have g34 : s1.2.2.1 34 d.toNat = j := (fst 34 (by omega) d.toNat (by omega)).trans hnu
      have g32 : s1.2.2.1 32 d.toNat = n := (fst 32 (by omega) d.toNat (by omega)).trans hfr
      have g33 : s1.2.2.1 33 d.toNat = cn := (fst 33 (by omega) d.toNat (by omega)).trans hpt
      have g35 : s1.2.2.1 35 d.toNat = a0 := (fst 35 (by omega) d.toNat (by omega)).trans hea
      have g17 : s1.2.2.1 17 n.toNat = 65 := by rw [txF_17 F (by decide) (by decide)]; exact hk
      have g29 : s1.1 29 = (if val then 1 else 0) := (F.1 29 (by decide) (by decide) (by decide) (by decide)).trans x4
      have h2 : ∀ fuel, rt m h (fuel + 1 + k + 1) q s = ax_ci (ax_F (m + 6) 170 [ax_A (some 24), ax_I (Int32.ofInt fq)] (mH h s1)) (fun x g => Model_readText_lp34 (ax_F (m + 6)) fuel (some 24) x g) := fun fuel => by
        rw [h1, k2, rt_beh fq0.1 (by omega) f38 f31 d0 (by omega)]
      -- the state behind number++
      have Fu : txF s1 (mU s1 34 d (j + 1)) := ⟨fun _ _ _ _ _ => rfl, fun x _ _ _ j4 _ _ => mU_ne _ _ _ _ _ j4, rfl⟩
      obtain ⟨sc, ec, Fc, w31, w38, wst, wsd, w40, w41⟩ := Model_closeList_z (m := m + 1) (h := h) (s := mU s1 34 d (j + 1)) (v := v) (p := fq) (d := d) (a := a0) (k := j + 1) (isV_of V1 rfl rfl rfl rfl rfl rfl) f31 d0 (by omega) (by rw [mU_3, if_neg (fun z => absurd z.1 (by decide))]; exact g35) a00 (by omega) (by rw [mU_3, if_pos ⟨rfl, rfl⟩]) fq0.1 (by omega) (by show 0 ≤ s1.1 7; omega) (by show s1.1 7 < _; omega) (by show 0 ≤ s1.1 39 ∧ s1.1 39 ≤ 2; omega)
      have be := Model_behind_A (m := m + 1) (h := h) (s := s1) (v := v) (val := val) (p := fq) (d := d) (n := n) (j := j) V1 f31 d0 (by omega) g32 n0 n1 g17 g34 j0 hj20 g29 fq0.1 (by omega) (by omega) (by omega) (by omega) (fun _ => ⟨_, _, ec⟩)
      by_cases c2 : v fq = 93
      · -- the last element
        rw [if_pos c2]
        rw [if_pos c2] at be
        simp only [if_pos c2]
        refine ⟨fun _ => ⟨k + 2, sc, by omega, fun fuel => ?_, F.trans (Fu.trans Fc), w31, w38, ?_, ?_, ?_, ?_, ?_⟩, fun z => absurd z (by omega)⟩
        · rw [show fuel + (k + 2) = fuel + 1 + k + 1 by omega, h2, pl_ci (be.trans ec)]
          rfl
        · refine fun x hx i hi => ?_
          rw [wst x hx, mU_3, if_neg (by omega)]
          exact fst x hx i (by omega)
        · have := fsd.trans wsd
          rw [show (mU s1 34 d (j + 1)).1 39 = s.1 39 from y39, c2] at this
          rw [List.append_nil]
          exact this
        · rw [List.append_nil]
          refine ⟨by rw [w40]; exact y40, fun i hi => ?_, fun z jj hjj => ?_, fun z => ?_⟩
          · rw [w41, show (mU s1 34 d (j + 1)).1 39 = s.1 39 from y39]
            by_cases z : s.1 39 = 1
            · rw [if_pos z, if_neg (by omega), mU_ne _ _ _ _ _ (by decide)]
              exact fel.2.1 i hi
            · rw [if_neg z]
              by_cases z2 : (i : Int) = a0
              · rw [if_pos (show s.1 39 ≠ 1 ∧ (i : Int) = a0 from ⟨z, z2⟩)]
                show (if i = a0.toNat then j + 1 else (mU s1 34 d (j + 1)).2.2.1 41 i) = _
                rw [if_pos (show i = a0.toNat by omega)]
                rfl
              · rw [if_neg (show ¬ (s.1 39 ≠ 1 ∧ (i : Int) = a0) from fun y => z2 y.2)]
                show (if i = a0.toNat then j + 1 else (mU s1 34 d (j + 1)).2.2.1 41 i) = _
                rw [if_neg (by omega), mU_ne _ _ _ _ _ (by decide)]
                exact fel.2.1 i hi
          · rw [w41, show (mU s1 34 d (j + 1)).1 39 = s.1 39 from y39, if_neg z]
            show (if (s.1 40 + (jj : Int)).toNat = a0.toNat then j + 1 else (mU s1 34 d (j + 1)).2.2.1 41 (s.1 40 + (jj : Int)).toNat) = _
            rw [if_neg (by omega), mU_ne _ _ _ _ _ (by decide)]
            exact fel.2.2.1 z jj hjj
          · rw [w41, show (mU s1 34 d (j + 1)).1 39 = s.1 39 from y39, if_pos z, mU_ne _ _ _ _ _ (by decide)]
            exact fel.2.2.2 z
        · rw [List.append_nil]; omega
        · rw [List.append_nil]
          rw [show fq + 1 - q - 1 = fq - q by omega]
          exact fo
      · rw [if_neg c2]
        rw [if_neg c2] at be hel
        simp only [if_neg c2]
        by_cases c3 : r = 0 ∨ v fq ≠ 44
        · -- no further element
          rw [if_pos c3]
          rw [if_neg (show ¬ (v fq = 44 ∧ j + 1 < (mst val : Int)) by omega)] at be
          refine ⟨fun z => absurd z (by omega), fun _ => ⟨k + 3, mU s1 34 d (j + 1), by omega, fun fuel => ?_, F.trans Fu, fun z => sd0 fsd z⟩⟩
          rw [show fuel + (k + 3) = fuel + 1 + 1 + k + 1 by omega, h2, pl_ci be]
          exact rt_neg (by omega) (by omega)
        · rw [if_neg c3]
          have v44 : v fq = 44 := Decidable.byContradiction fun z => c3 (Or.inr z)
          rw [if_pos (show v fq = 44 ∧ j + 1 < (mst val : Int) from ⟨v44, by omega⟩)] at be
          obtain ⟨s2, e2, f2, g2⟩ := sayCh_1 (m := m + 2) (h := h) (s := mU s1 34 d (j + 1)) (p := fq) (v := v) (isV_of V1 rfl rfl rfl rfl rfl rfl) fq0.1 (by omega) (by show 0 ≤ s1.1 7; omega) (by show s1.1 7 < _; omega) (by show 0 ≤ s1.1 39 ∧ s1.1 39 ≤ 2; omega)
          have w17 : s2.2.2.1 17 n.toNat = 65 := by rw [f2.2.1 17 (by decide)]; exact g17
          have be2 : ax_F (m + 6) 170 [ax_A (some 24), ax_I (Int32.ofInt fq)] (mH h s1) = some (.inl (some (ax_I (Int32.ofInt (fq + 1)))), mH h (mI s2 38 2)) := by
            refine be.trans (Eq.trans (pl_cv e2) ?_)
            unfold Model_behind_jn222
            simp (disch := omega) only [↓mgi_38, mpf_38, ↓mgr_17, mld_17, Option.bind_some, ↓zi_lit, zi_add, ↓reduceIte, eq_self, w17]
            rfl
          have F3 : txF s1 (mI s2 38 2) := ⟨fun x j1 j2 j3 j4 => by rw [mI_1, if_neg j3, f2.1 x j1, mU_1], fun x j1 j2 j3 j4 j5 j6 => by rw [mI_2, f2.2.1 x j1, mU_ne _ _ _ _ _ j4], by rw [mI_2, f2.2.2]; rfl⟩
          have g2' : said s1 (mI s2 38 2) (if s.1 39 = 2 then [44] else []) := by
            have e39 : (mU s1 34 d (j + 1)).1 39 = s.1 39 := y39
            rw [e39, v44] at g2
            exact g2
          have n2 := said_1 g2'
          have n2l : ((if s.1 39 = 2 then [(44 : Int)] else []).length : Int) ≤ 1 := by split <;> simp
          have z40 : (mI s2 38 2).1 40 = s1.1 40 := by rw [mI_1, if_neg (by decide), f2.1 40 (by decide)]; rfl
          have z41 : (mI s2 38 2).2.2.1 41 = s1.2.2.1 41 := by rw [mI_2, f2.2.1 41 (by decide), mU_ne _ _ _ _ _ (by decide)]
          have ar : ∀ x, (x = 32 ∨ x = 33 ∨ x = 35) → (mI s2 38 2).2.2.1 x = s1.2.2.1 x := fun x hx => by rw [mI_2, f2.2.1 x (by omega), mU_ne _ _ _ _ _ (by omega)]
          have lt160 : fq < 160 := lt_of hv (by omega)
          have X3 : tcx c v val (mI s2 38 2) (d + 1) (fq + 1) := tcx_of X' (F.trans F3) (by rw [mI_1, if_neg (by decide), f2.1 31 (by decide)]; exact f31) (by omega) (by rw [z40]; omega) (by rw [n2, y7]; omega) (by omega)
          have fel' : els s (mI s2 38 2) (spA c v val D (t + 1) q) := by
            have := fel.trans x8.1 y39 (els_0 (s := s1) (s' := mI s2 38 2) z40 z41)
            rw [List.append_nil] at this
            exact this
          have z39 : (mI s2 38 2).1 39 = s.1 39 := (txF_39 F3).trans y39
          obtain ⟨I1, I2⟩ := ih (mI s2 38 2) d (fq + 1) (j + 1) X3 (by rw [n2, y7]; omega) d0 hD rfl (by rw [mI_2]; exact w17) (by rw [ar 32 (by omega)]; exact g32) (by rw [ar 33 (by omega)]; exact g33) (by rw [mI_2, f2.2.1 34 (by decide), mU_3, if_pos ⟨rfl, rfl⟩]) (by rw [ar 35 (by omega)]; exact g35) a00 (by rw [z40]; omega) (Nd_tx (F.trans F3) N) (by omega) (by omega) (by omega) (elh_r hel fel' z39)
          have h3 : ∀ fuel, rt m h (fuel + 1 + k + 1) q s = rt m h fuel (fq + 1) (mI s2 38 2) := fun fuel => by
            rw [h2, pl_ci be2]
            rfl
          have Be := spEl_b (f := spVal c v val D (t + 1)) hv (fun q a b => spVal_b hv D (t + 1) q a b) r (fq + 1) (by omega) (by omega)
          unfold bd at Be
          refine ⟨fun z => ?_, fun z => ?_⟩
          · obtain ⟨k', s', i1, i2, i3, i4, i5, i6, i7, i8, i9, i10⟩ := I1 z
            rw [z39] at i7 i10
            refine ⟨k' + k + 2, s', by omega, fun fuel => ?_, F.trans (F3.trans i3), i4, i5, ?_, ?_, ?_, ?_, ?_⟩
            · rw [show fuel + (k' + k + 2) = (fuel + k') + 1 + k + 1 by omega, h3, i2]
            · refine (stk_le fst (by omega)).trans (stk.trans (fun x hx i hi => ?_) i6)
              by_cases e34 : x = 34
              · rw [e34, mI_2, f2.2.1 34 (by decide), mU_3, if_neg (by omega)]
              · rw [ar x (by omega)]
            · have := fsd.trans (g2'.trans i7)
              rw [List.append_assoc, List.append_assoc]
              exact this
            · have := elx.pre x8.1 a01 z39 fel' i8
              rw [show j + 1 + ((spElN v (spVal c v val D (t + 1)) r (fq + 1) : Nat) : Int) = j + ((1 + spElN v (spVal c v val D (t + 1)) r (fq + 1) : Nat) : Int) by omega] at this
              exact this
            · rw [List.length_append]; omega
            · rw [List.length_append, List.length_append]
              have e : (16 + 2 * (D : Int)) * (spEl v (spVal c v val D (t + 1)) r (fq + 1) - q - 1) = (16 + 2 * (D : Int)) * (fq - q) + (16 + 2 * (D : Int)) * (spEl v (spVal c v val D (t + 1)) r (fq + 1) - (fq + 1) - 1) + (16 + 2 * (D : Int)) := by
                rw [show spEl v (spVal c v val D (t + 1)) r (fq + 1) - q - 1 = (fq - q) + (spEl v (spVal c v val D (t + 1)) r (fq + 1) - (fq + 1) - 1) + 1 by omega, mul_split]
              rw [e]
              omega
          · obtain ⟨k', s', i1, i2, i3⟩ := I2 z
            refine ⟨k' + k + 2, s', by omega, fun fuel => ?_, F.trans (F3.trans i3.1), fun z0 => (i3.2 (z39.trans z0)).trans (by rw [if_neg (show ¬ s.1 39 = 2 by omega), List.length_nil] at n2; have := sd0 fsd z0; omega)⟩
            rw [show fuel + (k' + k + 2) = (fuel + k') + 1 + k + 1 by omega, h3, i2]
