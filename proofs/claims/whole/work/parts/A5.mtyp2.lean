theorem spTy_pl {c : Int → Int} {D : Nat} {p : Int} (h : isPl (c p)) : spTy c D p = p + 1 := by
  cases D with
  | zero => rw [spTy_0]; unfold spT0; rw [if_pos h]
  | succ D => rw [spTy_s]; unfold spT1; rw [if_pos h]
theorem spTy_E {c : Int → Int} {D : Nat} {p : Int} (h : c p = 69) : spTy c D p = spE c p := by
  cases D with
  | zero => rw [spTy_0]; unfold spT0; rw [if_neg (by omega), if_pos h]
  | succ D => rw [spTy_s]; unfold spT1; rw [if_neg (by omega), if_pos h]
theorem spTy_A {c : Int → Int} {D : Nat} {p : Int} (h : c p = 65) : spTy c (D + 1) p = spTy c D (p + 1) := by
  rw [spTy_s]; unfold spT1; rw [if_neg (by omega), if_neg (by omega), if_pos h]
theorem spTy_U {c : Int → Int} {D : Nat} {p : Int} (h : c p = 85) : spTy c (D + 1) p = if c (p + 1) = 40 then spBr c (spTy c D) 4 [] (p + 2) else -1 - (p + 1) := by
  rw [spTy_s]; unfold spT1; rw [if_neg (by omega), if_neg (by omega), if_neg (by omega), if_pos h]
theorem spTy_R {c : Int → Int} {D : Nat} {p : Int} (h : c p = 82) : spTy c (D + 1) p = if c (p + 1) = 40 then spFd c (spTy c D) (spVal c c false D) 6 [] (p + 2) else -1 - (p + 1) := by
  rw [spTy_s]; unfold spT1; rw [if_neg (by omega), if_neg (by omega), if_neg (by omega), if_neg (by omega), if_pos h]
theorem spTy_no {c : Int → Int} {D : Nat} {p : Int} (h : ¬ isPe (c p)) (h2 : D = 0 ∨ ¬ isHo (c p)) : spTy c D p = -1 - p := by
  have h1 : ¬ isPl (c p) := fun z => h (Or.inl z)
  have h69 : ¬ c p = 69 := fun z => h (Or.inr z)
  cases D with
  | zero => rw [spTy_0]; unfold spT0; rw [if_neg h1, if_neg h69]
  | succ D =>
    have h2 : ¬ isHo (c p) := h2.resolve_left (by omega)
    rw [spTy_s]; unfold spT1
    rw [if_neg h1, if_neg h69, if_neg (fun z => h2 (Or.inl z)), if_neg (fun z => h2 (Or.inr (Or.inl z))), if_neg (fun z => h2 (Or.inr (Or.inr z)))]
theorem g_1 (c : Int → Int) (D : Nat) (p : Int) : 1 ≤ gS c D p ∧ 1 ≤ gF c D p := by
  have h : ∀ D : Nat, 1 ≤ gsT D ∧ 1 ≤ hsT D ∧ 1 ≤ gfT D ∧ 1 ≤ hfT D := fun D => by
    match D with
    | 0 => decide
    | 1 => decide
    | 2 => decide
    | 3 => decide
    | 4 => decide
    | 5 => decide
    | _ + 6 => exact ⟨by show (1 : Int) ≤ 29; decide, by show (1 : Int) ≤ 29; decide, by show (1 : Int) ≤ 34; decide, by show (1 : Int) ≤ 34; decide⟩
  have := h D
  unfold gS gF
  split <;> omega
theorem spN_lf {c : Int → Int} {D : Nat} {t : Int} (h : c t ≠ 65 ∧ c t ≠ 85 ∧ c t ≠ 82) : spN c D t = 1 := by
  cases D with
  | zero => rfl
  | succ D => rw [spN_s, if_neg h.1, if_neg h.2.1, if_neg h.2.2]
theorem NdS_leaf {A : Nat → Nat → Int} {c : Int → Int} {D : Nat} {n t : Int} (L : lfN A c n t) (h : c t ≠ 65 ∧ c t ≠ 85 ∧ c t ≠ 82) : NdS A c D n t := by
  cases D with
  | zero => exact ⟨L, h⟩
  | succ D => exact ⟨L, fun z => absurd z h.1, fun z => absurd z h.2.1, fun z => absurd z h.2.2⟩
theorem simT_lf {m : Nat} {h : ax_Hp} {c : Int → Int} {tb : Int} {D : Nat} {s : mS} {o a p y x : Int} (R : pr0 s c tb o a p) (hoD : o + D = 6) (hpar : parOk s c o (c p)) (hy : 0 ≤ y ∧ y < 128) (hx : 3 * a ≤ 2 * p + x) (hg : x + gF c D p ≤ 40) (hnh : ¬ isHo (c p) ∨ D = 0) :
  (0 ≤ spTy c D p → ∃ (k : Nat) (s' : mS), (k : Int) ≤ 4 * (spTy c D p - p) ∧ (∀ fuel, rs m h tb (fuel + k) p y 2 s = rs m h tb fuel (spTy c D p) 0 1 s') ∧ tyP s s' c tb (120 * tb + a) o p (spTy c D p) y (spN c D p) D ∧ 3 * (a + spN c D p) ≤ 2 * spTy c D p + x + gS c D p ∧ exM s s' (spX c D p) tb) ∧
  (spTy c D p < 0 → ∃ (k : Nat) (s' : mS), (k : Int) ≤ 4 * (170 - p) ∧ (∀ fuel, rs m h tb (fuel + k) p y 2 s = some (.inl (some (ax_I (Int32.ofInt (-1 - spTy c D p)))), mH h s')) ∧ glF s s') := by
  have R' := R
  obtain ⟨T, htb, ho, hob, ha, hab, hp, hpr⟩ := R
  have b := T.2.2.2.2 p
  have zN := T.2.1
  have hc := T.2.2.2.1
  have g1 := g_1 c D p
  have hv : ∀ q, 160 ≤ q → c q = 0 := fun q hq => hc q (by omega)
  obtain ⟨L1, L2, L3, L4, L5, L6, L7, L8, L9⟩ := lS_P (y := y) R'
  by_cases c1 : isPl (c p)
  · have nl : c p ≠ 65 ∧ c p ≠ 85 ∧ c p ≠ 82 := by omega
    rw [spTy_pl c1, spN_lf nl]
    refine ⟨fun _ => ⟨1, lS s tb (120 * tb + a) (c p) y o, by omega, fun fuel => ?_, ?_, by omega, exM_0 (L4 25 (by omega) (by decide)) (fun i => spX_n (by omega))⟩, fun z => absurd z (by omega)⟩
    · rw [rs_2 hp.1 (by omega) (Model_letter_plain (m := m + 5) R' hy.1 hy.2 c1 hpar), L2]
    · refine ⟨fun k _ _ _ _ k5 _ => L1 k k5, (L1 26 (by decide)).trans ho, L3, fun k k1 k2 k3 _ _ _ _ _ => L4 k (by omega) k3, L5, by rw [L6]; omega, fun k _ _ i _ => by rw [L7], L8, ⟨L9.2.2.1, L9.2.2.2.2.1, L9.2.2.2.2.2.2.2⟩, fun i _ => by rw [L4 27 (by omega) (by decide)], fun i _ => by rw [L7], fun i _ => by rw [L4 25 (by omega) (by decide)], NdS_leaf ⟨by omega, by omega, hp.1, L9.1, fun z => by omega⟩ nl⟩
  · by_cases c2 : c p = 69
    · have nl : c p ≠ 65 ∧ c p ≠ 85 ∧ c p ≠ 82 := by omega
      have B := spE_b hv p hp.1 (by omega)
      unfold bd at B
      rw [spTy_E c2, spN_lf nl]
      obtain ⟨s', e, r1, r2, r3, r4, r5⟩ := Model_letter_E (m := m + 5) (h := h) R' hy.1 hy.2 c2 hpar
      have step : ∀ fuel, rs m h tb (fuel + 1) p y 2 s = rs m h tb fuel (spE c p) 0 1 s' := fun fuel => by
        rw [rs_2 hp.1 (by omega) e, r1, L2]
      refine ⟨fun z => ⟨1, s', by omega, step, ?_, by omega, exM_E c2 (r5 z).2⟩, fun z => ⟨2, s', by omega, fun fuel => ?_, ?_⟩⟩
      · obtain ⟨E1, E2⟩ := r5 z
        have lo : ∀ k, 17 ≤ k → k ≤ 24 → ∀ i : Nat, i ≠ (120 * tb + a).toNat → s'.2.2.1 k i = (lS s tb (120 * tb + a) (c p) y o).2.2.1 k i := fun k k1 k2 i hi => by
          by_cases q : k = 20 ∨ k = 22 ∨ k = 23
          · exact r4 k q i hi
          · rw [r3 k (by omega) (by omega) (by omega) (by omega)]
        refine ⟨fun k _ _ _ _ k5 _ => by rw [r1]; exact L1 k k5, by rw [r1]; exact (L1 26 (by decide)).trans ho, r2, fun k k1 k2 k3 _ _ _ _ _ => by rw [r3 k (by omega) (by omega) (by omega) (by omega)]; exact L4 k (by omega) k3, fun i hi => by rw [r3 16 (by decide) (by decide) (by decide) (by decide)]; exact L5 i hi, by rw [r3 16 (by decide) (by decide) (by decide) (by decide), L6]; omega, fun k k1 k2 i hi => by rw [lo k k1 k2 i (by omega), L7], fun k k1 k2 i hi => by rw [lo k k1 k2 i (by omega)]; exact L8 k k1 k2 i hi, ⟨by rw [r3 19 (by decide) (by decide) (by decide) (by decide)]; exact L9.2.2.1, by rw [r3 21 (by decide) (by decide) (by decide) (by decide)]; exact L9.2.2.2.2.1, by rw [r3 24 (by decide) (by decide) (by decide) (by decide)]; exact L9.2.2.2.2.2.2.2⟩, fun i _ => by rw [r3 27 (by decide) (by decide) (by decide) (by decide), L4 27 (by omega) (by decide)], fun i _ => by rw [r3 28 (by decide) (by decide) (by decide) (by decide), L7], fun i hi => ?_, NdS_leaf ⟨by omega, by omega, hp.1, by rw [r3 17 (by decide) (by decide) (by decide) (by decide)]; exact L9.1, fun _ => E1⟩ nl⟩
        rw [E2 i]
        refine if_neg (fun w => ?_)
        -- the two marks lie inside
        have k8 := (spSy_k (c := c) (p := p + 2) 8 0).2.1
        have w1 := w.1
        have : spE c p = p + 2 + spSy c (p + 2) 8 0 + 3 := by
          unfold spE at z ⊢
          rw [if_pos E1.2.2.2] at z ⊢
          by_cases q0 : spSy c (p + 2) 8 0 = 0
          · rw [if_pos q0] at z; omega
          · rw [if_neg q0, if_pos w1] at z ⊢
            split
            · rename_i q1; rw [if_pos q1] at z; omega
            · rename_i q1
              rw [if_neg q1] at z
              split
              · rfl
              · rename_i q2; rw [if_neg q2] at z; omega
        omega
      · rw [show fuel + 2 = fuel + 1 + 1 by omega, step]
        exact rs_neg z (by omega)
      · exact ⟨fun k _ _ _ _ _ k5 _ => by rw [r1]; exact L1 k k5, r2, fun k _ k1 k2 k3 _ _ _ _ _ => by rw [r3 k (by omega) (by omega) (by omega) (by omega)]; exact L4 k (by omega) k3⟩
    · have nx : ¬ isPe (c p) := fun z => z.elim c1 c2
      have nb : ¬ (isPe (c p) ∨ (isHo (c p) ∧ o ≤ 5)) := fun z => z.elim nx (fun w => by
        rcases hnh with q | q
        · exact q w.1
        · omega)
      rw [spTy_no nx (by rcases hnh with q | q; exact Or.inr q; exact Or.inl q)]
      refine ⟨fun z => absurd z (by omega), fun _ => ⟨2, s, by omega, fun fuel => ?_, glF_refl s⟩⟩
      rw [show fuel + 2 = fuel + 1 + 1 by omega, rs_2 hp.1 (by omega) (Model_letter_no (m := m + 5) T htb hp (Model_mayBegin_n ho hob.1 (by omega) b.1 b.2 nb))]
      exact rs_neg (by omega) (by omega)
