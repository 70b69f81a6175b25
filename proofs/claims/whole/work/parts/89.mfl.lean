theorem spFs_1 (v : Int → Int) (f : Int → Int → Int) (x q : Int) : spFs v f [x] q = if f (x + 2) q < 0 then f (x + 2) q else if v (f (x + 2) q) = 125 then f (x + 2) q + 1 else -1 - f (x + 2) q := rfl
theorem spFs_2 (v : Int → Int) (f : Int → Int → Int) (x y : Int) (l : List Int) (q : Int) : spFs v f (x :: y :: l) q = if f (x + 2) q < 0 then f (x + 2) q else if v (f (x + 2) q) = 44 then spFs v f (y :: l) (f (x + 2) q + 1) else -1 - f (x + 2) q := rfl
def fdP (A : Nat → Nat → Int) (c : Int → Int) (D : Nat) (m x : Int) : Prop := A 21 m.toNat = c x ∧ A 24 m.toNat = spGv c D x ∧ Nd A c D m (x + 2)
theorem fdP_tx {s s1 : mS} (F : txF s s1) {c : Int → Int} {D : Nat} {m x : Int} (h : fdP s.2.2.1 c D m x) : fdP s1.2.2.1 c D m x := by
  unfold fdP at *
  rw [txF_17 F (by decide) (by decide), txF_17 F (by decide) (by decide)]
  exact ⟨h.1, h.2.1, Nd_tx F h.2.2⟩
/-- the fields of a record -/
theorem sim_fls {m : Nat} {h : ax_Hp} {c v : Int → Int} {val : Bool} (hv : ∀ p, 160 ≤ p → v p = 0) {D : Nat} (E : simE m h c v val D (re m h) (fun _ => True)) {n : Int} (n0 : 0 ≤ n) (n1 : n < 240) : ∀ (l : List Int) (s : mS) (d q pn j : Int), l ≠ [] → tcx c v val s (d + 1) q → s.1 7 + 40 * (200 - q) + 2 * D ≤ 500000000 → 0 ≤ d → d + 1 + D ≤ 8 → s.1 38 = 2 → s.2.2.1 17 n.toNat = 82 → s.2.2.1 32 d.toNat = n → s.2.2.1 33 d.toNat = pn → s.2.2.1 34 d.toNat = j → ndCh (s.2.2.1 19) (fdP s.2.2.1 c D) pn l → 0 ≤ j → j + l.length ≤ 19 → elh s (spFsA (spVal c v val D) (spA c v val D) l q) →
    (0 ≤ spFs v (spVal c v val D) l q → ∃ (k : Nat) (s' : mS), (k : Int) ≤ 2 * (spFs v (spVal c v val D) l q - q) ∧ (∀ fuel, rt m h (fuel + k) q s = rt m h fuel (spFs v (spVal c v val D) l q) s') ∧ txF s s' ∧ s'.1 31 = d ∧ s'.1 38 = 1 ∧ stk d s s' ∧ said s s' (spFsO (s.1 39) (spVal c v val D) (spO (s.1 39) c v val D) l q ++ (if s.1 39 = 2 then [125] else [])) ∧ els s s' (spFsA (spVal c v val D) (spA c v val D) l q) ∧ 2 * ((spFsA (spVal c v val D) (spA c v val D) l q).length : Int) ≤ spFs v (spVal c v val D) l q - q - 1 ∧ ((spFsO (s.1 39) (spVal c v val D) (spO (s.1 39) c v val D) l q).length : Int) ≤ (16 + 2 * D) * (spFs v (spVal c v val D) l q - q - 1)) ∧
    (spFs v (spVal c v val D) l q < 0 → ∃ (k : Nat) (s' : mS), (k : Int) ≤ 2 * (171 - q) ∧ (∀ fuel, rt m h (fuel + k) q s = some (.inl (some (ax_I (Int32.ofInt (spFs v (spVal c v val D) l q)))), mH h s')) ∧ txG s s')
  | [], s, d, q, pn, j, hl, _, _, _, _, _, _, _, _, _, _, _, _, _ => absurd rfl hl
  | [x], s, d, q, pn, j, _, X, hB, d0, hD, h38, hk, hfr, hpt, hnu, C, j0, hjl, hel => by
    have X' := X
    obtain ⟨x1, x2, x3, x4, x5, x6, x7, x8, x9, x10⟩ := X
    obtain ⟨c1', c2', ⟨-, -, N⟩, c4'⟩ := C
    have B := spVal_b (c := c) (val := val) hv D (x + 2) q x10.1 x10.2
    unfold bd at B
    obtain ⟨E1, E2⟩ := E s (d + 1) q pn (x + 2) trivial X' hB hD N hel
    have h1 : ∀ fuel, rt m h (fuel + 1) q s = re m h fuel pn q s := fun fuel => rt_ent x10.1 (by omega) h38 x6 d0 (by omega) hpt
    rw [spFs_1]
    show (_ → ∃ k s', _ ∧ _ ∧ _ ∧ _ ∧ _ ∧ _ ∧ said s s' (spO (s.1 39) c v val D (x + 2) q ++ _) ∧ els s s' (spA c v val D (x + 2) q) ∧ 2 * ((spA c v val D (x + 2) q).length : Int) ≤ _ ∧ ((spO (s.1 39) c v val D (x + 2) q).length : Int) ≤ _) ∧ _
    by_cases c1 : spVal c v val D (x + 2) q < 0
    · rw [if_pos c1]
      refine ⟨fun z => absurd z (by omega), fun _ => ?_⟩
      obtain ⟨k, s', k1, k2, k3⟩ := E2 c1
      exact ⟨k + 1, s', by omega, fun fuel => by rw [← Nat.add_assoc, h1, k2], k3⟩
    · rw [if_neg c1]
      obtain ⟨k, s1, k1, k2, ⟨F, f31, f38, fst, fsd, fel⟩, fa, fo⟩ := E1 (by omega)
      clear E1 E2
      generalize hf : spVal c v val D (x + 2) q = fq at *
      have fq0 : 0 ≤ fq ∧ q < fq ∧ fq ≤ 160 := by omega
      have y39 := txF_39 F
      have y7 := said_1 fsd
      have lo : ((spO (s.1 39) c v val D (x + 2) q).length : Int) ≤ 32 * (fq - q) := by
        have : (16 + 2 * (D : Int)) * (fq - q) ≤ 32 * (fq - q) := Int.mul_le_mul_of_nonneg_right (by omega) (by omega)
        omega
      have g19 : s1.2.2.1 19 pn.toNat = -1 := by rw [txF_17 F (by decide) (by decide)]; exact c4'
      obtain ⟨s2, e2, F2, w, w7⟩ := Model_behind_R (m := m + 1) (h := h) (s := s1) (v := v) (p := fq) (d := d) (n := n) (pn := pn) (nx := -1) (j := j) (txF_isV F x3) f31 d0 (by omega) ((fst 32 (by omega) d.toNat (by omega)).trans hfr) n0 n1 (by rw [txF_17 F (by decide) (by decide)]; exact hk) ((fst 34 (by omega) d.toNat (by omega)).trans hnu) j0 (by rw [List.length_singleton] at hjl; omega) ((fst 33 (by omega) d.toNat (by omega)).trans hpt) c1' c2' g19 (by omega) (by omega) fq0.1 (by omega) (by omega) (by omega) (by omega)
      rw [if_pos (show (-1 : Int) < 0 by decide), if_pos (show (-1 : Int) < 0 by decide), if_pos (show (-1 : Int) < 0 by decide)] at w
      rw [if_pos (show (-1 : Int) < 0 by decide)] at e2
      have h2 : ∀ fuel, rt m h (fuel + 1 + k + 1) q s = ax_ci (ax_F (m + 6) 170 [ax_A (some 24), ax_I (Int32.ofInt fq)] (mH h s1)) (fun x g => Model_readText_lp34 (ax_F (m + 6)) fuel (some 24) x g) := fun fuel => by
        rw [h1, k2, rt_beh fq0.1 (by omega) f38 f31 d0 (by omega)]
      by_cases c2 : v fq = 125
      · obtain ⟨w31, w38, wst, w32, w33, w34, wsd, w40, w41⟩ := w c2
        rw [if_pos c2] at e2 ⊢
        refine ⟨fun _ => ⟨k + 2, s2, by omega, fun fuel => ?_, F.trans F2, w31, w38, (stk_le fst (by omega)).trans wst, ?_, ?_, by omega, ?_⟩, fun z => absurd z (by omega)⟩
        · rw [show fuel + (k + 2) = fuel + 1 + k + 1 by omega, h2, pl_ci e2]
          rfl
        · have := fsd.trans wsd
          rw [y39, c2] at this
          exact this
        · have := fel.trans x8.1 y39 (els_0 w40 w41)
          rw [List.append_nil] at this
          exact this
        · rw [show fq + 1 - q - 1 = fq - q by omega]
          exact fo
      · rw [if_neg c2] at e2 ⊢
        refine ⟨fun z => absurd z (by omega), fun _ => ⟨k + 3, s2, by omega, fun fuel => ?_, F.trans F2, fun z => (w7 (by first | (rw [if_pos (show (-1 : Int) < 0 by decide)]; exact c2) | (rw [if_neg (show ¬ nx < 0 by omega)]; exact c2))).trans (sd0 fsd z)⟩⟩
        rw [show fuel + (k + 3) = fuel + 1 + 1 + k + 1 by omega, h2, pl_ci e2]
        exact rt_neg (by omega) (by omega)
  | x :: y :: l, s, d, q, pn, j, _, X, hB, d0, hD, h38, hk, hfr, hpt, hnu, C, j0, hjl, hel => by
    have X' := X
    obtain ⟨x1, x2, x3, x4, x5, x6, x7, x8, x9, x10⟩ := X
    obtain ⟨c1', c2', ⟨-, -, N⟩, c4'⟩ := C
    have c4 := c4'
    obtain ⟨c5, c6, -⟩ := c4'
    have B := spVal_b (c := c) (val := val) hv D (x + 2) q x10.1 x10.2
    unfold bd at B
    have hel : elh s (spA c v val D (x + 2) q ++ spFsA (spVal c v val D) (spA c v val D) (y :: l) (spVal c v val D (x + 2) q + 1)) := hel
    obtain ⟨E1, E2⟩ := E s (d + 1) q pn (x + 2) trivial X' hB hD N (elh_l hel)
    have h1 : ∀ fuel, rt m h (fuel + 1) q s = re m h fuel pn q s := fun fuel => rt_ent x10.1 (by omega) h38 x6 d0 (by omega) hpt
    rw [spFs_2]
    show (_ → ∃ k s', _ ∧ _ ∧ _ ∧ _ ∧ _ ∧ _ ∧ said s s' ((spO (s.1 39) c v val D (x + 2) q ++ ((if s.1 39 = 2 then [44] else []) ++ spFsO (s.1 39) (spVal c v val D) (spO (s.1 39) c v val D) (y :: l) (spVal c v val D (x + 2) q + 1))) ++ _) ∧ els s s' (spA c v val D (x + 2) q ++ spFsA (spVal c v val D) (spA c v val D) (y :: l) (spVal c v val D (x + 2) q + 1)) ∧ 2 * ((spA c v val D (x + 2) q ++ spFsA (spVal c v val D) (spA c v val D) (y :: l) (spVal c v val D (x + 2) q + 1)).length : Int) ≤ _ ∧ ((spO (s.1 39) c v val D (x + 2) q ++ ((if s.1 39 = 2 then [44] else []) ++ spFsO (s.1 39) (spVal c v val D) (spO (s.1 39) c v val D) (y :: l) (spVal c v val D (x + 2) q + 1))).length : Int) ≤ _) ∧ _
    by_cases c1 : spVal c v val D (x + 2) q < 0
    · rw [if_pos c1]
      refine ⟨fun z => absurd z (by omega), fun _ => ?_⟩
      obtain ⟨k, s', k1, k2, k3⟩ := E2 c1
      exact ⟨k + 1, s', by omega, fun fuel => by rw [← Nat.add_assoc, h1, k2], k3⟩
    · rw [if_neg c1]
      obtain ⟨k, s1, k1, k2, ⟨F, f31, f38, fst, fsd, fel⟩, fa, fo⟩ := E1 (by omega)
      clear E1 E2
      generalize hf : spVal c v val D (x + 2) q = fq at *
      have fq0 : 0 ≤ fq ∧ q < fq ∧ fq ≤ 160 := by omega
      have y39 := txF_39 F
      have y7 := said_1 fsd
      have y40 := fel.1
      have lo : ((spO (s.1 39) c v val D (x + 2) q).length : Int) ≤ 32 * (fq - q) := by
        have : (16 + 2 * (D : Int)) * (fq - q) ≤ 32 * (fq - q) := Int.mul_le_mul_of_nonneg_right (by omega) (by omega)
        omega
      generalize hnx : s.2.2.1 19 pn.toNat = nx at *
      have g19 : s1.2.2.1 19 pn.toNat = nx := by rw [txF_17 F (by decide) (by decide)]; exact hnx
      rw [List.length_cons, List.length_cons] at hjl
      obtain ⟨s2, e2, F2, w, w7⟩ := Model_behind_R (m := m + 1) (h := h) (s := s1) (v := v) (p := fq) (d := d) (n := n) (pn := pn) (nx := nx) (j := j) (txF_isV F x3) f31 d0 (by omega) ((fst 32 (by omega) d.toNat (by omega)).trans hfr) n0 n1 (by rw [txF_17 F (by decide) (by decide)]; exact hk) ((fst 34 (by omega) d.toNat (by omega)).trans hnu) j0 (by omega) ((fst 33 (by omega) d.toNat (by omega)).trans hpt) c1' c2' g19 (by omega) c6 fq0.1 (by omega) (by omega) (by omega) (by omega)
      rw [if_neg (show ¬ nx < 0 by omega), if_neg (show ¬ nx < 0 by omega), if_neg (show ¬ nx < 0 by omega)] at w
      rw [if_neg (show ¬ nx < 0 by omega)] at e2
      have h2 : ∀ fuel, rt m h (fuel + 1 + k + 1) q s = ax_ci (ax_F (m + 6) 170 [ax_A (some 24), ax_I (Int32.ofInt fq)] (mH h s1)) (fun x g => Model_readText_lp34 (ax_F (m + 6)) fuel (some 24) x g) := fun fuel => by
        rw [h1, k2, rt_beh fq0.1 (by omega) f38 f31 d0 (by omega)]
      by_cases c2 : v fq = 44
      · obtain ⟨w31, w38, wst, w32, w33, w34, wsd, w40, w41⟩ := w c2
        rw [if_pos c2] at e2 ⊢
        have lt160 : fq < 160 := lt_of hv (by omega)
        rw [y39, c2] at wsd
        have n2 := said_1 wsd
        have n2l : ((if s.1 39 = 2 then [(44 : Int)] else []).length : Int) ≤ 1 := by split <;> simp
        have X3 : tcx c v val s2 (d + 1) (fq + 1) := tcx_of X' (F.trans F2) w31 (by omega) (by rw [w40]; omega) (by rw [n2, y7]; omega) (by omega)
        have fel' : els s s2 (spA c v val D (x + 2) q) := by
          have := fel.trans x8.1 y39 (els_0 (s := s1) (s' := s2) w40 w41)
          rw [List.append_nil] at this
          exact this
        have z39 : s2.1 39 = s.1 39 := (txF_39 F2).trans y39
        have c4' : ndCh (s2.2.2.1 19) (fdP s2.2.2.1 c D) nx (y :: l) := ndCh_of (fun n x y => fdP_tx (F.trans F2) y) (fun i => by rw [txF_17 (F.trans F2) (by decide) (by decide)]) _ _ c4
        obtain ⟨I1, I2⟩ := sim_fls hv E n0 n1 (y :: l) s2 d (fq + 1) nx (j + 1) (by simp) X3 (by rw [n2, y7]; omega) d0 hD w38 (by rw [txF_17 (F.trans F2) (by decide) (by decide)]; exact hk) (by rw [w32]; exact (fst 32 (by omega) d.toNat (by omega)).trans hfr) w33 w34 c4' (by omega) (by rw [List.length_cons]; omega) (elh_r hel fel' z39)
        have h3 : ∀ fuel, rt m h (fuel + 1 + k + 1) q s = rt m h fuel (fq + 1) s2 := fun fuel => by
          rw [h2, pl_ci e2]
          rfl
        have Be := spFs_b (f := spVal c v val D) hv (fun t q a b => spVal_b hv D t q a b) (y :: l) (fq + 1) (by omega) (by omega)
        unfold bd at Be
        refine ⟨fun z => ?_, fun z => ?_⟩
        · obtain ⟨k', s', i1, i2, i3, i4, i5, i6, i7, i8, i9, i10⟩ := I1 z
          rw [z39] at i7 i10
          refine ⟨k' + k + 2, s', by omega, fun fuel => ?_, F.trans (F2.trans i3), i4, i5, (stk_le fst (by omega)).trans (wst.trans i6), ?_, ?_, ?_, ?_⟩
          · rw [show fuel + (k' + k + 2) = (fuel + k') + 1 + k + 1 by omega, h3, i2]
          · have := fsd.trans (wsd.trans i7)
            rw [List.append_assoc, List.append_assoc]
            exact this
          · exact fel'.trans x8.1 z39 i8
          · rw [List.length_append]; omega
          · rw [List.length_append, List.length_append]
            have e : (16 + 2 * (D : Int)) * (spFs v (spVal c v val D) (y :: l) (fq + 1) - q - 1) = (16 + 2 * (D : Int)) * (fq - q) + (16 + 2 * (D : Int)) * (spFs v (spVal c v val D) (y :: l) (fq + 1) - (fq + 1) - 1) + (16 + 2 * (D : Int)) := by
              rw [show spFs v (spVal c v val D) (y :: l) (fq + 1) - q - 1 = (fq - q) + (spFs v (spVal c v val D) (y :: l) (fq + 1) - (fq + 1) - 1) + 1 by omega, mul_split]
            rw [e]
            omega
        · obtain ⟨k', s', i1, i2, i3⟩ := I2 z
          refine ⟨k' + k + 2, s', by omega, fun fuel => ?_, F.trans (F2.trans i3.1), fun z0 => (i3.2 (z39.trans z0)).trans (by rw [if_neg (show ¬ s.1 39 = 2 by omega), List.length_nil] at n2; have := sd0 fsd z0; omega)⟩
          rw [show fuel + (k' + k + 2) = (fuel + k') + 1 + k + 1 by omega, h3, i2]
      · rw [if_neg c2] at e2 ⊢
        refine ⟨fun z => absurd z (by omega), fun _ => ⟨k + 3, s2, by omega, fun fuel => ?_, F.trans F2, fun z => (w7 (by first | (rw [if_pos (show (-1 : Int) < 0 by decide)]; exact c2) | (rw [if_neg (show ¬ nx < 0 by omega)]; exact c2))).trans (sd0 fsd z)⟩⟩
        rw [show fuel + (k + 3) = fuel + 1 + 1 + k + 1 by omega, h2, pl_ci e2]
        exact rt_neg (by omega) (by omega)
