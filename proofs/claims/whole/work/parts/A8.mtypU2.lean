/-- the holder is closed -/
theorem hInv_tyP {s S1 : mS} {c : Int → Int} {tb o a p e y : Int} {sz : Int → Int} {P : (Nat → Nat → Int) → Int → Int → Prop} {L : List Int} {D : Nat} (hz : ∀ x, 1 ≤ sz x) (R : pr0 s c tb o a p) (H : hInv (grS s tb (120 * tb + a) (c p) y o) S1 tb (120 * tb + a) o p e sz P L) (N : NdS S1.2.2.1 c D (120 * tb + a) p) : tyP s (mI (mI S1 38 1) 26 o) c tb (120 * tb + a) o p e y (1 + lsz sz L) D := by
  obtain ⟨L1, L2, L3, L4, L5, L6, L7, L8, L9⟩ := lS_P (y := y) R
  obtain ⟨⟨u1, u2, u3, u4, u5, u6, u7, u8⟩, i26, i27, i16, i20, -, iN, ich⟩ := H
  have e1 : (grS s tb (120 * tb + a) (c p) y o).1 = s.1 := by
    obtain ⟨T, htb, ho, hob, ha, hab, hp, hpr⟩ := R
    exact (grS_f (s := s) (t := tb) (n := 120 * tb + a) (x := c p) (y := y) (o := o) (by omega) (fun z => by have := hpr z; exact ⟨by omega, by omega, fun w => by have := this.2.2.2.2 w; omega⟩)).1
  refine ⟨fun j j1 j2 j3 j4 j5 j6 => ?_, ?_, ?_, fun j j1 j2 j3 j4 j5 j6 j7 j8 => ?_, fun i hi => ?_, ?_, fun j j1 j2 i hi => ?_, fun j j1 j2 i hi => ?_, ⟨?_, ?_, ?_⟩, fun i hi => ?_, fun i hi => ?_, fun i hi => ?_, N⟩
  · rw [mI_1, if_neg j1, mI_1, if_neg j5, u1 j j1 j2 j3 j4 j5 j6, e1]
  · rw [mI_1, if_pos rfl]
  · rw [mI_2, mI_2, u2]; exact L3
  · rw [mI_2, mI_2, u3 j j1 j2 j3 j4 j5 j6 j7 j8, ← L7]; exact L4 j (by omega) j3
  · rw [mI_2, mI_2, u4 i hi, ← L7]; exact L5 i hi
  · rw [mI_2, mI_2, i16]; omega
  · rw [mI_2, mI_2, u5 j j1 j2 i (Or.inl hi)]
  · have := lsz_nn hz L
    rw [mI_2, mI_2, u5 j j1 j2 i (Or.inr (by omega)), ← L7]
    exact L8 j j1 j2 i (by omega)
  · rw [mI_2, mI_2, u6 19 (by decide) (by decide) (by decide) (by decide), ← L7]; exact L9.2.2.1
  · rw [mI_2, mI_2, u6 21 (by decide) (by decide) (by decide) (by decide), ← L7]; exact L9.2.2.2.2.1
  · rw [mI_2, mI_2, u6 24 (by decide) (by decide) (by decide) (by decide), ← L7]; exact L9.2.2.2.2.2.2.2
  · rw [mI_2, mI_2, u7 27 (Or.inl rfl) i hi, ← L7]; exact congrFun (L4 27 (by omega) (by decide)) i
  · rw [mI_2, mI_2, u7 28 (Or.inr rfl) i hi]
  · rw [mI_2, mI_2, u8 i hi, ← L7]; exact congrFun (L4 25 (by omega) (by decide)) i
/-- right behind the letter -/
theorem hInv_0 {s : mS} {c : Int → Int} {tb o a p y k0 : Int} {sz : Int → Int} {P : (Nat → Nat → Int) → Int → Int → Prop} (R : pr0 s c tb o a p) : hInv (grS s tb (120 * tb + a) (c p) y o) (bS (lS s tb (120 * tb + a) (c p) y o) (120 * tb + a) o k0) tb (120 * tb + a) o p (p + 2) sz P [] := by
  obtain ⟨L1, L2, L3, L4, L5, L6, L7, L8, L9⟩ := lS_P (y := y) R
  obtain ⟨B1, B2, B3, B4, B5, B6, B7, B8, B9⟩ := bS_P (y := y) (k0 := k0) R
  have e1 : (grS s tb (120 * tb + a) (c p) y o).1 = s.1 ∧ (grS s tb (120 * tb + a) (c p) y o).2.2.2 = s.2.2.2 := by
    obtain ⟨T, htb, ho, hob, ha, hab, hp, hpr⟩ := R
    have := grS_f (s := s) (t := tb) (n := 120 * tb + a) (x := c p) (y := y) (o := o) (by omega) (fun z => by have := hpr z; exact ⟨by omega, by omega, fun w => by have := this.2.2.2.2 w; omega⟩)
    exact ⟨this.1, this.2.1⟩
  refine ⟨⟨fun k k1 k2 k3 k4 k5 k6 => by rw [B1 k k1 k5, e1.1], by rw [B4, e1.2], fun k k1 k2 k3 k4 k5 k6 k7 k8 => by rw [B5 k k2 k3, L7], fun i hi => by rw [B5 16 (by decide) (by decide), L7], fun k k1 k2 i hi => by rw [B5 k (by omega) (by omega), L7], fun k k1 k2 k3 k4 => by rw [B5 k (by omega) (by omega), L7], fun k hk i hi => ?_, fun i hi => by rw [B5 25 (by decide) (by decide), L7]⟩, B2, B6, ?_, ?_, fun _ => ?_, fun z => absurd rfl z, trivial⟩
  · rcases hk with rfl | rfl
    · rw [B7 i hi, ← L7]; exact (congrFun (L4 27 (by omega) (by decide)) i).symm
    · exact B8 i hi
  · rw [B5 16 (by decide) (by decide), L6, lsz_nil]; omega
  · rw [B5 20 (by decide) (by decide), L9.2.2.2.1]; rfl
  · rw [B5 18 (by decide) (by decide), L9.2.1]
theorem spBl_hd (c ty : Int → Int) (k : Nat) (b : Int) : ∃ l, spBl c ty (k + 1) b = b :: l := ⟨_, rfl⟩
set_option maxHeartbeats 4000000 in
/-- a U -/
theorem simT_U {m : Nat} {h : ax_Hp} {c : Int → Int} {tb : Int} {D : Nat} (E : simT m h c tb D) {s : mS} {o a p y x : Int} (R : pr0 s c tb o a p) (hoD : o + ((D + 1 : Nat) : Int) = 6) (hpar : parOk s c o (c p)) (hy : 0 ≤ y ∧ y < 128) (h39 : s.1 39 = 0) (h7 : 0 ≤ s.1 7 ∧ s.1 7 ≤ 1000000) (hx : 3 * a ≤ 2 * p + x) (hg : x + gF c (D + 1) p ≤ 40) (hU : c p = 85) :
  (0 ≤ spTy c (D + 1) p → ∃ (k : Nat) (s' : mS), (k : Int) ≤ 4 * (spTy c (D + 1) p - p) ∧ (∀ fuel, rs m h tb (fuel + k) p y 2 s = rs m h tb fuel (spTy c (D + 1) p) 0 1 s') ∧ tyP s s' c tb (120 * tb + a) o p (spTy c (D + 1) p) y (spN c (D + 1) p) (D + 1) ∧ 3 * (a + spN c (D + 1) p) ≤ 2 * spTy c (D + 1) p + x + gS c (D + 1) p ∧ exM s s' (spX c (D + 1) p) tb) ∧
  (spTy c (D + 1) p < 0 → ∃ (k : Nat) (s' : mS), (k : Int) ≤ 4 * (170 - p) ∧ (∀ fuel, rs m h tb (fuel + k) p y 2 s = some (.inl (some (ax_I (Int32.ofInt (-1 - spTy c (D + 1) p)))), mH h s')) ∧ glF s s') := by
  have R' := R
  obtain ⟨T, htb, ho, hob, ha, hab, hp, hpr⟩ := R
  have zN := T.2.1
  have hc := T.2.2.2.1
  have hv : ∀ q, 160 ≤ q → c q = 0 := fun q hq => hc q (by omega)
  have lp : p < 160 := lt_of hv (by omega)
  have eg : gF c (D + 1) p = gfT (D + 1) ∧ gS c (D + 1) p = gsT (D + 1) := by unfold gF gS; rw [if_pos hU, if_pos hU]; exact ⟨rfl, rfl⟩
  obtain ⟨L1, L2, L3, L4, L5, L6, L7, L8, L9⟩ := lS_P (y := y) R'
  obtain ⟨B1, B2, B3, B4, B5, B6, B7, B8, B9⟩ := bS_P (y := y) (k0 := 2) R'
  have let_ := Model_letter_UR (m := m + 5) (h := h) R' hy.1 hy.2 (Or.inl hU) (by omega) hpar
  rw [if_pos hU] at let_
  have H0 := hInv_0 (y := y) (k0 := 2) (sz := spN c D) (P := brP c D) R'
  have gl0 : glF s (bS (lS s tb (120 * tb + a) (c p) y o) (120 * tb + a) o 2) := ⟨fun k _ k2 _ _ _ k5 _ => B1 k k2 k5, B4, fun k _ k1 k2 k3 _ _ _ _ _ => by rw [B5 k k2 k3]; exact L4 k (by omega) k3⟩
  have k85 : (grS s tb (120 * tb + a) (c p) y o).2.2.1 17 (120 * tb + a).toNat = 85 := by rw [← L7, L9.1]; exact hU
  have s39 := (B1 39 (by decide) (by decide)).trans h39
  have s7 := B1 7 (by decide) (by decide)
  have eN' : spN c (D + 1) p = 1 + lsz (spN c D) (spPt c (D + 1) p) := by rw [spN_s, if_neg (by omega), if_pos hU]
  have ePt : spPt c (D + 1) p = spBl c (spTy c D) 4 (p + 2) := by rw [spPt_s]; unfold spP1; rw [if_pos hU]
  have sX : (bS (lS s tb (120 * tb + a) (c p) y o) (120 * tb + a) o 2).2.2.1 25 = (grS s tb (120 * tb + a) (c p) y o).2.2.1 25 := (B5 25 (by decide) (by decide)).trans (L7 25)
  have sY : (grS s tb (120 * tb + a) (c p) y o).2.2.1 25 = s.2.2.1 25 := (L7 25).symm.trans (L4 25 (by omega) (by decide))
  clear L1 L2 L3 L4 L5 L6 L7 L8 L9 B4 B5 B6 B7 B8
  generalize bS (lS s tb (120 * tb + a) (c p) y o) (120 * tb + a) o 2 = S0 at *
  have step : ∀ fuel, rs m h tb (fuel + 1) p y 2 s = rs m h tb fuel (if c (p + 1) = 40 then p + 2 else -1 - (p + 1)) 0 2 S0 := fun fuel => by rw [rs_2 hp.1 (by omega) let_, B3]
  rw [spTy_U hU]
  by_cases c1 : c (p + 1) = 40
  · rw [if_pos c1] at step ⊢
    have lp1 : p + 1 < 160 := lt_of hv (by omega)
    obtain ⟨J1, J2⟩ := simT_br E (by omega) (sg := grS s tb (120 * tb + a) (c p) y o) (n := 120 * tb + a) (o := o) (p := p) (x := x) htb (by omega) hp.1 hoD hob.1 k85 (by omega) 3 [] S0 (p + 2) H0 rfl B9 s39 (by rw [s7]; exact h7) (by omega) (by rw [lsz_nil]; show _ ≤ 2 * (p + 2) + (x - 1 + ((0 : Nat) : Int) * (hsT D - 2)); rw [show ((0 : Nat) : Int) * (hsT D - 2) = 0 from Int.zero_mul _]; omega) (by rw [ePt]; rfl) (exM_0 sX (fun i => ex_nil))
    have er : (([] : List Int).map c).reverse = [] := rfl
    rw [er, show (3 + 1 : Nat) = 4 from rfl] at J1 J2
    have Bb := spBr_b (ty := spTy c D) hv (fun q a b => spTy_b hv D q a b) 4 [] (p + 2) (by omega) (by omega)
    unfold bd at Bb
    refine ⟨fun z => ?_, fun z => ?_⟩
    · obtain ⟨k, S1, a1, a2, a3, a4, aX⟩ := J1 z
      clear J1 J2
      refine ⟨k + 1, mI (mI S1 38 1) 26 o, by omega, fun fuel => by rw [show fuel + (k + 1) = fuel + k + 1 by omega, step, a2], ?_, by rw [eN', eg.2]; omega, exM_c (exM_r (exM_l aX sY) rfl) (fun i => (spX_U hU).symm)⟩
      rw [eN']
      refine hInv_tyP (spN_1 c D) R' a3 ?_
      obtain ⟨u, i26, i27, i16, i20, -, iN, ich⟩ := a3
      have hne : spPt c (D + 1) p ≠ [] := by rw [ePt, spBl_s]; simp
      refine ⟨⟨by omega, by omega, hp.1, ?_, fun w => by omega⟩, fun w => by omega, fun _ => ⟨(iN hne).1, i20, ?_, ich⟩, fun w => by omega⟩
      · rw [u.2.2.2.2.2.1 17 (by decide) (by decide) (by decide) (by decide), k85, hU]
      · rw [ePt]; exact spBl_hd c (spTy c D) 3 (p + 2)
    · obtain ⟨k, S1, a1, a2, a3⟩ := J2 z
      clear J1 J2
      exact ⟨k + 1, S1, by omega, fun fuel => by rw [show fuel + (k + 1) = fuel + k + 1 by omega, step, a2], gl0.trans a3⟩
  · rw [if_neg c1] at step ⊢
    refine ⟨fun z => absurd z (by omega), fun _ => ⟨2, S0, by omega, fun fuel => ?_, gl0⟩⟩
    rw [show fuel + 2 = fuel + 1 + 1 by omega, step]
    exact rs_neg (by omega) (by omega)
