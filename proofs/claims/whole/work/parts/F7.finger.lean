def shr1 (x : Int64) : Int64 := (x.toUInt64 >>> ((1 : Int32).toInt64.toUInt64 &&& Int64.toUInt64 63)).toInt64
def shr8 (x : Int64) : Int64 := (x.toUInt64 >>> ((8 : Int32).toInt64.toUInt64 &&& Int64.toUInt64 63)).toInt64
def mx1 (x : Int64) : Int64 := if x &&& 1 = 0 then shr1 x else shr1 x ^^^ (-4513414715797952619)
def mxN : Nat → Int64 → Int64
  | 0, x => x
  | n + 1, x => mxN n (mx1 x)
def fpS (f : Int64) (x : Int) : Int64 := shr8 f ^^^ mxN 8 ((f ^^^ Int64.ofInt x) &&& 255)
theorem and1 (x : Int64) : x &&& 1 = 0 ∨ x &&& 1 = 1 := by
  rcases Nat.mod_two_eq_zero_or_one x.toBitVec.toNat with h | h
  · left
    refine Int64.toBitVec_inj.mp (BitVec.eq_of_toNat_eq ?_)
    show (x.toBitVec &&& 1#64).toNat = 0
    rw [BitVec.toNat_and, show (1#64).toNat = 1 from rfl, Nat.and_one_is_mod]
    exact h
  · right
    refine Int64.toBitVec_inj.mp (BitVec.eq_of_toNat_eq ?_)
    show (x.toBitVec &&& 1#64).toNat = 1
    rw [BitVec.toNat_and, show (1#64).toNat = 1 from rfl, Nat.and_one_is_mod]
    exact h
theorem b255 : ∀ k : Nat, k < 128 → (Int64.ofInt k) &&& 255 = Int64.ofInt k := by decide +kernel
theorem fpX {f : Int64} {x : Int} (x0 : 0 ≤ x) (x1 : x < 128) : (f &&& 255) ^^^ Int64.ofInt x = (f ^^^ Int64.ofInt x) &&& 255 := by
  have hb := b255 x.toNat (by omega)
  rw [show ((x.toNat : Nat) : Int) = x by omega] at hb
  generalize Int64.ofInt x = b at *
  refine Int64.toBitVec_inj.mp ?_
  show (f.toBitVec &&& 255#64) ^^^ b.toBitVec = (f.toBitVec ^^^ b.toBitVec) &&& 255#64
  have hb' : b.toBitVec &&& 255#64 = b.toBitVec := congrArg Int64.toBitVec hb
  conv => lhs; rw [← hb']
  refine BitVec.eq_of_getLsbD_eq (fun i hi => ?_)
  simp only [BitVec.getLsbD_and, BitVec.getLsbD_xor]
  cases f.toBitVec.getLsbD i <;> cases b.toBitVec.getLsbD i <;> cases (255#64).getLsbD i <;> rfl
theorem Desk_mixed_l {m : Nat} {h : ax_Hp} : ∀ (k i fuel : Nat) (x : Int64), i + k = 8 → k < fuel → Desk_mixed_lp5 (ax_F m) fuel x (Int32.ofInt i) h = some (.inl (some (ax_L (mxN k x))), h)
  | 0, i, fuel, x, hi, hf => by
    obtain ⟨fuel, rfl⟩ : ∃ g, fuel = g + 1 := ⟨fuel - 1, by omega⟩
    have hstep : Desk_mixed_lp5 (ax_F m) (fuel + 1) = Desk_mixed_bd5 (ax_F m) (Desk_mixed_lp5 (ax_F m) fuel) := rfl
    rw [hstep]
    unfold Desk_mixed_bd5
    rw [if_pos (show (8 : Int32) ≤ Int32.ofInt i from by rw [show (8 : Int32) = Int32.ofInt 8 from rfl, zi_le (by omega) (by omega) (by omega) (by omega)]; omega)]
    rfl
  | k + 1, i, fuel, x, hi, hf => by
    obtain ⟨fuel, rfl⟩ : ∃ g, fuel = g + 1 := ⟨fuel - 1, by omega⟩
    have hstep : Desk_mixed_lp5 (ax_F m) (fuel + 1) = Desk_mixed_bd5 (ax_F m) (Desk_mixed_lp5 (ax_F m) fuel) := rfl
    have ih := Desk_mixed_l (m := m) (h := h) k (i + 1) fuel (mx1 x) (by omega) (by omega)
    rw [hstep]
    unfold Desk_mixed_bd5
    rw [if_neg (show ¬ (8 : Int32) ≤ Int32.ofInt i from by rw [show (8 : Int32) = Int32.ofInt 8 from rfl, zi_le (by omega) (by omega) (by omega) (by omega)]; omega)]
    have e1 : Int32.ofInt i + 1 = Int32.ofInt ((i + 1 : Nat) : Int) := by rw [show (1 : Int32) = Int32.ofInt 1 from rfl, zi_add, show (i : Int) + 1 = ((i + 1 : Nat) : Int) by omega]
    rw [e1]
    by_cases q : x &&& 1 = 0
    · rw [if_pos ((lg_eq _ _).mpr q)]
      unfold mx1 at ih
      rw [if_pos q] at ih
      show _ = some (Sum.inl (some (ax_L (mxN k (mx1 x)))), h)
      unfold mx1
      rw [if_pos q]
      exact ih
    · rw [if_neg (fun z => q ((lg_eq _ _).mp z))]
      unfold mx1 at ih
      rw [if_neg q] at ih
      show _ = some (Sum.inl (some (ax_L (mxN k (mx1 x)))), h)
      unfold mx1
      rw [if_neg q]
      exact ih
theorem Desk_mixed_e {m : Nat} {h : ax_Hp} {x : Int64} : ax_F (m + 1) 103 [ax_L x] h = some (.inl (some (ax_L (mxN 8 x))), h) := by
  rw [Desk_mixed_F]
  unfold Desk_mixed_b
  exact Desk_mixed_l 8 0 ax_fuel x rfl (by unfold ax_fuel; omega)
theorem getD_app {A B : List Int} {x : Int} : (A ++ x :: B).getD A.length 0 = x := by
  rw [List.getD_eq_getElem?_getD, List.getElem?_append_right (Nat.le_refl _), Nat.sub_self]
  rfl
theorem Desk_finger_l {m o dr di : Nat} {p : Int32} {h : ax_Hp} {fd : Nat → Int} (hne : dr ≠ di) {L : List Int} (hL : L.length ≤ 400) (hx : ∀ x ∈ L, 0 ≤ x ∧ x < 128) (dk : (rH h dr di fd L).2.2 1 = some (dkO o dr p)) : ∀ (B A : List Int) (f : Int64) (fuel : Nat), L = A ++ B → B.length < fuel → Desk_fingerprint_lp31 (ax_F (m + 1)) fuel (some 1) f (Int32.ofInt A.length) (rH h dr di fd L) = some (.inl (some (ax_L (B.foldl fpS f))), rH h dr di fd L)
  | [], A, f, fuel, hA, hf => by
    obtain ⟨fuel, rfl⟩ : ∃ g, fuel = g + 1 := ⟨fuel - 1, by omega⟩
    have hstep : Desk_fingerprint_lp31 (ax_F (m + 1)) (fuel + 1) = Desk_fingerprint_bd31 (ax_F (m + 1)) (Desk_fingerprint_lp31 (ax_F (m + 1)) fuel) := rfl
    have el : L.length = A.length := by rw [hA, List.append_nil]
    rw [hstep]
    unfold Desk_fingerprint_bd31
    rw [pl_gr dk (v := some dr) rfl, Option.bind_some, rH_on, pl_ci Ro_sizeL, if_pos (show Int32.ofInt L.length ≤ Int32.ofInt A.length from by rw [el, zi_le (by omega) (by omega) (by omega) (by omega)]; omega)]
    rfl
  | x :: B, A, f, fuel, hA, hf => by
    obtain ⟨fuel, rfl⟩ : ∃ g, fuel = g + 1 := ⟨fuel - 1, by omega⟩
    have hstep : Desk_fingerprint_lp31 (ax_F (m + 1)) (fuel + 1) = Desk_fingerprint_bd31 (ax_F (m + 1)) (Desk_fingerprint_lp31 (ax_F (m + 1)) fuel) := rfl
    have el : L.length = A.length + (B.length + 1) := by rw [hA, List.length_append, List.length_cons]
    have gx : L.getD ((A.length : Int)).toNat 0 = x := by rw [show ((A.length : Int)).toNat = A.length by omega, hA]; exact getD_app
    have bx := hx x (by rw [hA]; exact List.mem_append.mpr (Or.inr List.mem_cons_self))
    have ih := Desk_finger_l (m := m) (o := o) (p := p) (fd := fd) hne hL hx dk B (A ++ [x]) (fpS f x) fuel (by rw [hA, List.append_assoc]; rfl) (by rw [List.length_cons] at hf; omega)
    rw [hstep]
    unfold Desk_fingerprint_bd31
    rw [pl_gr dk (v := some dr) rfl, Option.bind_some, rH_on, pl_ci Ro_sizeL, if_neg (show ¬ Int32.ofInt L.length ≤ Int32.ofInt A.length from by rw [zi_le (by omega) (by omega) (by omega) (by omega)]; omega), pl_gr dk (v := some dr) rfl, Option.bind_some, rH_on, pl_ci (Ro_atL hne hL (by omega) (by omega)), gx, zl_of32 (by omega) (by omega), pl_cl Desk_mixed_e]
    rw [show Int32.ofInt A.length + 1 = Int32.ofInt ((A ++ [x]).length : Nat) from by rw [show (1 : Int32) = Int32.ofInt 1 from rfl, zi_add, List.length_append, List.length_singleton, show (A.length : Int) + 1 = ((A.length + 1 : Nat) : Int) by omega]]
    exact ih
theorem spBt_mem {c mk : Int → Int} (hc : ∀ p : Int, 0 ≤ c p ∧ c p < 128) : ∀ (n : Nat) (p : Int), ∀ x ∈ spBt c mk p n, 0 ≤ x ∧ x < 128
  | 0, _, x, hx => absurd hx List.not_mem_nil
  | n + 1, p, x, hx => by
    rw [spBt_s] at hx
    by_cases q : mk p = 0
    · rw [if_pos q] at hx
      rcases List.mem_cons.mp hx with e | e
      · rw [e]; exact hc p
      · exact spBt_mem hc n (p + 1) x e
    · rw [if_neg q] at hx
      exact spBt_mem hc n (p + 1) x hx
theorem shL_mem {c : Int → Int} {n : Int} {b : Int32} {L : List Int} (h : shL c n b L) (hc : ∀ p : Int, 0 ≤ c p ∧ c p < 128) : ∀ x ∈ L, 0 ≤ x ∧ x < 128 := by
  obtain ⟨mk, e, -⟩ := h
  rw [e]
  exact spBt_mem hc _ _
/-- the class's fingerprint -/
theorem Desk_finger_y {m sc l o oi dr di : Nat} {nd p z w : Int32} {h : ax_Hp} {c : Int → Int} {fe fn fu fd : Nat → Int} (O : odX o oi dr di) (hd : h.2.2 1 = some (dkO o dr p)) (hdr : h.2.2 dr = some (rwO di nd)) (hdi : h.2.2 di = some (.inr (1, arL 400 fd))) (V : verX h sc l c fe fn fu) (hv : ax_F (m + 3) 94 [ax_A (some 1), ax_I z, ax_I w] h = some (.inl (some (ax_A (some sc))), h)) : ∃ (h' : ax_Hp) (L : List Int), ax_F (m + 4) 102 [ax_A (some 1), ax_I z, ax_I w] h = some (.inl (some (ax_L (L.foldl fpS (-4513414715797952619)))), h') ∧ shL c l 1 L ∧ h'.1 = h.1 ∧ h'.2.1 = h.2.1 ∧ h'.2.2 dr = some (rwO di (Int32.ofInt L.length)) ∧ h'.2.2 di = some (.inr (1, arL 400 (lsF fd L))) ∧ ∀ a, a ≠ dr → a ≠ di → h'.2.2 a = h.2.2 a := by
  have d1 : dr ≤ 13 ∧ 10 ≤ dr ∧ di ≤ 13 ∧ 10 ≤ di ∧ dr ≠ di := by rcases O with ⟨a, b, c, d⟩ | ⟨a, b, c, d⟩ <;> omega
  obtain ⟨d1, d2, d3, d4, d5⟩ := d1
  have l1 := V.2.2.2.2.2.2.2.2.1
  have hcb := V.2.2.2.2.2.2.2.2.2.2.1
  have dk : ∀ L, (rH h dr di fd L).2.2 1 = some (dkO o dr p) := fun L => (rH_o (by omega) (by omega)).trans hd
  obtain ⟨L, c1, c2⟩ := Sc_bare (m := m + 1) (fd := fd) (b := 1) V (show dr < 60 by omega) (show di < 60 by omega) d5 (by decide)
  have ln := shL_len c2
  refine ⟨rH h dr di fd L, L, ?_, c2, rfl, rfl, rH_dr _ _ _ _ _, rH_di _ _ _ d5, fun a a1 a2 => rH_o a1 a2⟩
  rw [Desk_fingerprint_F]
  unfold Desk_fingerprint_b
  rw [pl_on hd, pl_cr hv, pl_gr hd (v := some dr) rfl, Option.bind_some, pl_on hdr, pl_ci (Row_clr hdr), show ax_set h dr (.inl (2, [ax_A (some di), ax_I 0])) = rH h dr di fd [] from rH_0 hdi d5, pl_gr (dk []) (v := some dr) rfl, Option.bind_some, Sa_on (verX_A (verX_rH (f0 := fd) (L := []) V (show dr < 60 by omega) (show di < 60 by omega))), pl_cv c1]
  exact Desk_finger_l (m := m + 2) (o := o) (p := p) (fd := fd) d5 (by omega) (shL_mem c2 hcb) (dk L) L [] _ ax_fuel rfl (by unfold ax_fuel; omega)
theorem Model_finger_8 {m : Nat} {h : ax_Hp} {k45 : Option Nat → Int64 → Int32 → ax_Hp → ax_O} {f : Int64} {j : Int32} : ∀ (k i fuel : Nat) (x : Int64), i + k = 8 → k < fuel → Model_fingerprint_lp73 (ax_F m) k45 fuel (some 24) f j x (Int32.ofInt i) h = k45 (some 24) (shr8 f ^^^ mxN k x) (j + 1) h
  | 0, i, fuel, x, hi, hf => by
    obtain ⟨fuel, rfl⟩ : ∃ g, fuel = g + 1 := ⟨fuel - 1, by omega⟩
    have hstep : Model_fingerprint_lp73 (ax_F m) k45 (fuel + 1) = Model_fingerprint_bd73 (ax_F m) k45 (Model_fingerprint_lp73 (ax_F m) k45 fuel) := rfl
    rw [hstep]
    unfold Model_fingerprint_bd73
    rw [if_pos (show (8 : Int32) ≤ Int32.ofInt i from by rw [show (8 : Int32) = Int32.ofInt 8 from rfl, zi_le (by omega) (by omega) (by omega) (by omega)]; omega)]
    rfl
  | k + 1, i, fuel, x, hi, hf => by
    obtain ⟨fuel, rfl⟩ : ∃ g, fuel = g + 1 := ⟨fuel - 1, by omega⟩
    have hstep : Model_fingerprint_lp73 (ax_F m) k45 (fuel + 1) = Model_fingerprint_bd73 (ax_F m) k45 (Model_fingerprint_lp73 (ax_F m) k45 fuel) := rfl
    have ih := Model_finger_8 (m := m) (h := h) (k45 := k45) (f := f) (j := j) k (i + 1) fuel (mx1 x) (by omega) (by omega)
    rw [hstep]
    unfold Model_fingerprint_bd73
    rw [if_neg (show ¬ (8 : Int32) ≤ Int32.ofInt i from by rw [show (8 : Int32) = Int32.ofInt 8 from rfl, zi_le (by omega) (by omega) (by omega) (by omega)]; omega)]
    have e1 : Int32.ofInt i + 1 = Int32.ofInt ((i + 1 : Nat) : Int) := by rw [show (1 : Int32) = Int32.ofInt 1 from rfl, zi_add, show (i : Int) + 1 = ((i + 1 : Nat) : Int) by omega]
    unfold Model_fingerprint_jn104
    rw [e1]
    show _ = k45 (some 24) (shr8 f ^^^ mxN k (mx1 x)) (j + 1) h
    rw [← ih]
    by_cases q : x &&& 1 = 0
    · rw [if_neg (fun z => by have := (lg_eq _ _).mp z; rw [q] at this; exact absurd this (by decide))]
      unfold mx1
      rw [if_pos q]
      rfl
    · rw [if_pos ((lg_eq _ _).mpr ((and1 x).resolve_left q))]
      unfold mx1
      rw [if_neg q]
      rfl
theorem Model_finger_l {m : Nat} {h : ax_Hp} {s : mS} {L : List Int} (h7 : s.1 7 = L.length) (hL : L.length ≤ 400) (h8 : ∀ j : Nat, j < L.length → s.2.2.1 8 j = L.getD j 0) (hx : ∀ x ∈ L, 0 ≤ x ∧ x < 128) : ∀ (B A : List Int) (f : Int64) (fuel : Nat), L = A ++ B → B.length < fuel → Model_fingerprint_lp45 (ax_F m) fuel (some 24) f (Int32.ofInt A.length) (mH h s) = some (.inl (some (ax_L (B.foldl fpS f))), mH h s)
  | [], A, f, fuel, hA, hf => by
    obtain ⟨fuel, rfl⟩ : ∃ g, fuel = g + 1 := ⟨fuel - 1, by omega⟩
    have hstep : Model_fingerprint_lp45 (ax_F m) (fuel + 1) = Model_fingerprint_bd45 (ax_F m) (Model_fingerprint_lp45 (ax_F m) fuel) := rfl
    have el : L.length = A.length := by rw [hA, List.append_nil]
    rw [hstep]
    unfold Model_fingerprint_bd45
    rw [mgi_7, Option.bind_some, h7, if_pos (show Int32.ofInt L.length ≤ Int32.ofInt A.length from by rw [el, zi_le (by omega) (by omega) (by omega) (by omega)]; omega)]
    rfl
  | x :: B, A, f, fuel, hA, hf => by
    obtain ⟨fuel, rfl⟩ : ∃ g, fuel = g + 1 := ⟨fuel - 1, by omega⟩
    have hstep : Model_fingerprint_lp45 (ax_F m) (fuel + 1) = Model_fingerprint_bd45 (ax_F m) (Model_fingerprint_lp45 (ax_F m) fuel) := rfl
    have el : L.length = A.length + (B.length + 1) := by rw [hA, List.length_append, List.length_cons]
    have gx : s.2.2.1 8 ((A.length : Int)).toNat = x := by rw [show ((A.length : Int)).toNat = A.length by omega, h8 _ (by omega), hA]; exact getD_app
    have bx := hx x (by rw [hA]; exact List.mem_append.mpr (Or.inr List.mem_cons_self))
    have ih := Model_finger_l (m := m) (h := h) h7 hL h8 hx B (A ++ [x]) (fpS f x) fuel (by rw [hA, List.append_assoc]; rfl) (by rw [List.length_cons] at hf; omega)
    rw [hstep]
    unfold Model_fingerprint_bd45
    rw [mgi_7, Option.bind_some, h7, if_neg (show ¬ Int32.ofInt L.length ≤ Int32.ofInt A.length from by rw [zi_le (by omega) (by omega) (by omega) (by omega)]; omega), mgr_8, Option.bind_some, mld_8 _ _ _ (by omega) (by omega), Option.bind_some, gx, zl_of32 (by omega) (by omega), fpX bx.1 bx.2, show (0 : Int32) = Int32.ofInt ((0 : Nat) : Int) from rfl, Model_finger_8 8 0 ax_fuel _ rfl (by unfold ax_fuel; omega)]
    rw [show Int32.ofInt A.length + 1 = Int32.ofInt ((A ++ [x]).length : Nat) from by rw [show (1 : Int32) = Int32.ofInt 1 from rfl, zi_add, List.length_append, List.length_singleton, show (A.length : Int) + 1 = ((A.length + 1 : Nat) : Int) by omega]]
    exact ih
/-- the reference's fingerprint -/
theorem Model_finger_y {m : Nat} {h : ax_Hp} {s : mS} {c : Int → Int} {z w n : Int} (z0 : -2147483648 ≤ z) (z1 : z < 2147483648) (w0 : -2147483648 ≤ w) (w1 : w < 2147483648) (B : mB s) (hv : vOk z w (s.2.2.1 11)) (VT : veT s (6 * z + w) n c) : ∃ (s' : mS) (L : List Int), ax_F (m + 12) 191 [ax_A (some 24), ax_I (Int32.ofInt z), ax_I (Int32.ofInt w)] (mH h s) = some (.inl (some (ax_L (L.foldl fpS (-4513414715797952619)))), mH h s') ∧ shL c n 1 L ∧ s'.1 0 = 0 ∧ kpF s s' ∧ (0 ≤ s'.1 7 ∧ s'.1 7 ≤ 1000000) := by
  have n160 := VT.2.2.2.2.1
  have hcb := VT.2.2.2.2.2.2.2.1
  obtain ⟨s1, L, e1, k1, a0, sh, a7, a8⟩ := Model_draftText_z (m := m) (h := h) (s := mI s 0 0) (c := c) (w := 6 * z + w) (n := n) (b := 1) B VT
  have ln := shL_len sh
  refine ⟨s1, L, ?_, sh, a0, (kpF_I (k := 0) (v := 0) (by decide)).trans k1, by omega⟩
  rw [Model_fingerprint_F]
  unfold Model_fingerprint_b
  rw [mS_on, pl_ci (Model_isVersion_y z0 z1 w0 w1 B.2.1 hv), if_neg (show ¬ Int32.ofInt 1 = 0 from by decide)]
  unfold Model_fingerprint_jn15
  rw [show ax_pf (mH h s) (some 24) 9 0 (ax_I 0) = some (mH h (mI s 0 0)) from mpf_0 h s 0, Option.bind_some, mgi_0, Option.bind_some, if_pos (show Int32.ofInt ((mI s 0 0).1 0) ≤ 0 from by show Int32.ofInt 0 ≤ 0; decide), mS_on, show (6 : Int32) * Int32.ofInt z + Int32.ofInt w = Int32.ofInt (6 * z + w) from by rw [show (6 : Int32) = Int32.ofInt 6 from rfl, zi_mul, zi_add], pl_cv e1]
  exact Model_finger_l (m := m + 11) (h := h) a7 (by omega) a8 (shL_mem sh hcb) L [] _ ax_fuel rfl (by unfold ax_fuel; omega)
