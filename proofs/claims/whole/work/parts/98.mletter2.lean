/-- what is asked of the store before a type at p: table tb, o holders, a nodes so far -/
def pr0 (s : mS) (c : Int → Int) (tb o a p : Int) : Prop := isT s tb c ∧ (tb = 0 ∨ tb = 1) ∧ s.1 26 = o ∧ (0 ≤ o ∧ o ≤ 6) ∧ s.2.2.1 16 tb.toNat = a ∧ (0 ≤ a ∧ a < 120) ∧ (0 ≤ p ∧ p ≤ 160) ∧ (0 < o → 120 * tb ≤ s.2.2.1 27 (o - 1).toNat ∧ s.2.2.1 27 (o - 1).toNat < 120 * tb + a ∧ 0 ≤ s.2.2.1 20 (s.2.2.1 27 (o - 1).toNat).toNat ∧ s.2.2.1 20 (s.2.2.1 27 (o - 1).toNat).toNat < 100 ∧ (s.2.2.1 20 (s.2.2.1 27 (o - 1).toNat).toNat ≠ 0 → 120 * tb ≤ s.2.2.1 28 (o - 1).toNat ∧ s.2.2.1 28 (o - 1).toNat < 120 * tb + a))
def lS (s : mS) (tb n x y o : Int) : mS := mI (grS s tb n x y o) 38 1
def bS (s : mS) (n o k : Int) : mS := mI (mI (mU (mU s 27 o n) 28 o (-1)) 26 (o + 1)) 38 k
theorem grS_isT {s : mS} {c : Int → Int} {tb o a p n x y : Int} (h : pr0 s c tb o a p) (hn : n = 120 * tb + a) : isT (lS s tb n x y o) tb c := by
  obtain ⟨T, htb, ho, hob, ha, hab, hp, hpar⟩ := h
  have F := grS_f (s := s) (t := tb) (n := n) (x := x) (y := y) (o := o) (by omega) (fun z => by have := hpar z; exact ⟨by omega, by omega, fun w => by have := this.2.2.2.2 w; omega⟩)
  exact isT_of T (by unfold lS; rw [mI_2]; exact F.2.2.1 15 (by omega) (by decide)) (by unfold lS; rw [mI_2]; exact F.2.2.1 14 (by omega) (by decide))
theorem Model_letter_pre {m : Nat} {h : ax_Hp} {s : mS} {c : Int → Int} {tb o a p y : Int} (R : pr0 s c tb o a p) (y0 : 0 ≤ y) (y1 : y < 128) (hx : isPe (c p) ∨ (isHo (c p) ∧ o ≤ 5)) (hpar : parOk s c o (c p)) (k : ax_O) (hk : (if Int32.ofInt (c p) = 69 then ax_on (mH h (lS s tb (120 * tb + a) (c p) y o)) (some 24) 9 <| ax_ci (ax_F (m + 2) 174 [ax_A (some 24), ax_I (Int32.ofInt tb), ax_I (Int32.ofInt (120 * tb + a)), ax_I (Int32.ofInt p + 1)] (mH h (lS s tb (120 * tb + a) (c p) y o))) fun v17 h16 => ax_ri v17 h16 else if Int32.ofInt (c p) = 65 then ax_on (mH h (lS s tb (120 * tb + a) (c p) y o)) (some 24) 9 <| ax_cv (ax_F (m + 2) 176 [ax_A (some 24), ax_I (Int32.ofInt (120 * tb + a))] (mH h (lS s tb (120 * tb + a) (c p) y o))) fun h13 => (ax_pf h13 (some 24) 9 38 (ax_I 2)).bind fun h15 => ax_ri (Int32.ofInt p + 1) h15 else if Int32.ofInt (c p) = 85 then Model_readLetter_jn90 (ax_F (m + 2)) (some 24) (Int32.ofInt tb) (Int32.ofInt p) (Int32.ofInt (c p)) (Int32.ofInt (120 * tb + a)) (mH h (lS s tb (120 * tb + a) (c p) y o)) else if Int32.ofInt (c p) = 82 then Model_readLetter_jn90 (ax_F (m + 2)) (some 24) (Int32.ofInt tb) (Int32.ofInt p) (Int32.ofInt (c p)) (Int32.ofInt (120 * tb + a)) (mH h (lS s tb (120 * tb + a) (c p) y o)) else ax_ri (Int32.ofInt p + 1) (mH h (lS s tb (120 * tb + a) (c p) y o))) = k) : ax_F (m + 3) 171 [ax_A (some 24), ax_I (Int32.ofInt tb), ax_I (Int32.ofInt p), ax_I (Int32.ofInt y)] (mH h s) = k := by
  obtain ⟨T, htb, ho, hob, ha, hab, hp, hpr⟩ := R
  have b := T.2.2.2.2 p
  rw [Model_readLetter_F]
  unfold Model_readLetter_b
  rw [mS_on, pl_ci (Model_look_z T (by omega) (by omega) hp.1 (by omega)), mS_on, pl_ci (Model_mayBegin_y ho hob.1 (by omega) b.1 b.2 hx hpar), if_neg (show ¬ Int32.ofInt 1 = 0 from by decide), mS_on]
  have g := Model_grow_z (m := m + 1) (h := h) (s := s) (t := tb) (a := a) (x := c p) (y := y) (o := o) (by omega) (by omega) ha hab.1 hab.2 b.1 (by omega) y0 (by omega) ho hob.1 (by omega) (fun z => by have := hpr z; exact ⟨by omega, by omega, by omega, by omega, fun w => by have := this.2.2.2.2 w; omega⟩)
  rw [pl_ci g, show (1 : Int32) = Int32.ofInt 1 from rfl, mpf_38, Option.bind_some]
  exact hk
theorem Model_letter_plain {m : Nat} {h : ax_Hp} {s : mS} {c : Int → Int} {tb o a p y : Int} (R : pr0 s c tb o a p) (y0 : 0 ≤ y) (y1 : y < 128) (hx : isPl (c p)) (hpar : parOk s c o (c p)) : ax_F (m + 3) 171 [ax_A (some 24), ax_I (Int32.ofInt tb), ax_I (Int32.ofInt p), ax_I (Int32.ofInt y)] (mH h s) = some (.inl (some (ax_I (Int32.ofInt (p + 1)))), mH h (lS s tb (120 * tb + a) (c p) y o)) := by
  have b := R.1.2.2.2.2 p
  refine Model_letter_pre (m := m) R y0 y1 (Or.inl (Or.inl hx)) hpar _ ?_
  have e : ∀ k : Nat, k < 128 → ¬ c p = k → ¬ Int32.ofInt (c p) = Int32.ofInt (k : Int) := fun k k1 hk => by rw [zi_eq (by omega) (by omega) (by omega) (by omega)]; exact hk
  rw [if_neg (show ¬ Int32.ofInt (c p) = 69 from e 69 (by decide) (by omega)), if_neg (show ¬ Int32.ofInt (c p) = 65 from e 65 (by decide) (by omega)), if_neg (show ¬ Int32.ofInt (c p) = 85 from e 85 (by decide) (by omega)), if_neg (show ¬ Int32.ofInt (c p) = 82 from e 82 (by decide) (by omega)), show (1 : Int32) = Int32.ofInt 1 from rfl, zi_add]
  rfl
theorem Model_letter_E {m : Nat} {h : ax_Hp} {s : mS} {c : Int → Int} {tb o a p y : Int} (R : pr0 s c tb o a p) (y0 : 0 ≤ y) (y1 : y < 128) (hx : c p = 69) (hpar : parOk s c o (c p)) : ∃ s', ax_F (m + 3) 171 [ax_A (some 24), ax_I (Int32.ofInt tb), ax_I (Int32.ofInt p), ax_I (Int32.ofInt y)] (mH h s) = some (.inl (some (ax_I (Int32.ofInt (spE c p)))), mH h s') ∧ s'.1 = (lS s tb (120 * tb + a) (c p) y o).1 ∧ s'.2.2.2 = s.2.2.2 ∧ (∀ j, j ≠ 20 → j ≠ 22 → j ≠ 23 → j ≠ 25 → s'.2.2.1 j = (lS s tb (120 * tb + a) (c p) y o).2.2.1 j) ∧ (∀ j, j = 20 ∨ j = 22 ∨ j = 23 → ∀ i : Nat, i ≠ (120 * tb + a).toNat → s'.2.2.1 j i = (lS s tb (120 * tb + a) (c p) y o).2.2.1 j i) ∧ (0 ≤ spE c p → eN s'.2.2.1 c (120 * tb + a) p ∧ ∀ i : Nat, s'.2.2.1 25 i = if c (p + 2 + spSy c (p + 2) 8 0) = 61 ∧ ((i : Int) = 160 * tb + (p + 2 + spSy c (p + 2) 8 0) ∨ (i : Int) = 160 * tb + (p + 2 + spSy c (p + 2) 8 0) + 1) then 1 else s.2.2.1 25 i) := by
  have R' := R
  obtain ⟨T, htb, ho, hob, ha, hab, hp, hpr⟩ := R
  have F := grS_f (s := s) (t := tb) (n := 120 * tb + a) (x := c p) (y := y) (o := o) (by omega) (fun z => by have := hpr z; exact ⟨by omega, by omega, fun w => by have := this.2.2.2.2 w; omega⟩)
  obtain ⟨F1, F2, F3, F4, F5, F6, F7, F8, F9, F10⟩ := F
  obtain ⟨s', e, r1, r2, r3, r4, r5⟩ := Model_readSymbols_z (m := m) (h := h) (s := lS s tb (120 * tb + a) (c p) y o) (tb := tb) (n := 120 * tb + a) (p := p) (c := c) (grS_isT R' rfl) (by omega) (by omega) (by omega) (by omega) hp.1 hx (by unfold lS; rw [mI_2]; exact F10.2.2.2.1) (by unfold lS; rw [mI_2]; exact F10.2.2.2.2.2.2.1)
  refine ⟨s', ?_, r1, r2.trans (by unfold lS; rw [mI_2]; exact F2), r3, r4, fun z => ⟨(r5 z).1, fun i => ?_⟩⟩
  · refine Model_letter_pre (m := m) R' y0 y1 (Or.inl (Or.inr hx)) hpar _ ?_
    rw [if_pos (show Int32.ofInt (c p) = 69 from by rw [hx]; rfl), mS_on, show (1 : Int32) = Int32.ofInt 1 from rfl, zi_add, pl_ci e]
    rfl
  · rw [(r5 z).2 i]
    have : (lS s tb (120 * tb + a) (c p) y o).2.2.1 25 = s.2.2.1 25 := by unfold lS; rw [mI_2]; exact F3 25 (by omega) (by decide)
    rw [this]
theorem Model_letter_A {m : Nat} {h : ax_Hp} {s : mS} {c : Int → Int} {tb o a p y : Int} (R : pr0 s c tb o a p) (y0 : 0 ≤ y) (y1 : y < 128) (hx : c p = 65) (ho5 : o ≤ 5) (hpar : parOk s c o (c p)) : ax_F (m + 3) 171 [ax_A (some 24), ax_I (Int32.ofInt tb), ax_I (Int32.ofInt p), ax_I (Int32.ofInt y)] (mH h s) = some (.inl (some (ax_I (Int32.ofInt (p + 1)))), mH h (bS (lS s tb (120 * tb + a) (c p) y o) (120 * tb + a) o 2)) := by
  have R' := R
  obtain ⟨T, htb, ho, hob, ha, hab, hp, hpr⟩ := R
  obtain ⟨F1, -⟩ := grS_f (s := s) (t := tb) (n := 120 * tb + a) (x := c p) (y := y) (o := o) (by omega) (fun z => by have := hpr z; exact ⟨by omega, by omega, fun w => by have := this.2.2.2.2 w; omega⟩)
  have e := Model_begin_z (m := m + 1) (h := h) (s := lS s tb (120 * tb + a) (c p) y o) (n := 120 * tb + a) (o := o) (by unfold lS; rw [mI_1, if_neg (by decide), F1]; exact ho) hob.1 (by omega)
  refine Model_letter_pre (m := m) R' y0 y1 (Or.inr ⟨Or.inl hx, ho5⟩) hpar _ ?_
  rw [if_neg (show ¬ Int32.ofInt (c p) = 69 from by rw [hx]; decide), if_pos (show Int32.ofInt (c p) = 65 from by rw [hx]; rfl), mS_on, pl_cv e, show (2 : Int32) = Int32.ofInt 2 from rfl, mpf_38, Option.bind_some, show (1 : Int32) = Int32.ofInt 1 from rfl, zi_add]
  rfl
theorem Model_letter_UR {m : Nat} {h : ax_Hp} {s : mS} {c : Int → Int} {tb o a p y : Int} (R : pr0 s c tb o a p) (y0 : 0 ≤ y) (y1 : y < 128) (hx : c p = 85 ∨ c p = 82) (ho5 : o ≤ 5) (hpar : parOk s c o (c p)) : ax_F (m + 3) 171 [ax_A (some 24), ax_I (Int32.ofInt tb), ax_I (Int32.ofInt p), ax_I (Int32.ofInt y)] (mH h s) = some (.inl (some (ax_I (Int32.ofInt (if c (p + 1) = 40 then p + 2 else -1 - (p + 1))))), mH h (bS (lS s tb (120 * tb + a) (c p) y o) (120 * tb + a) o (if c p = 85 then 2 else 3))) := by
  have R' := R
  obtain ⟨T, htb, ho, hob, ha, hab, hp, hpr⟩ := R
  have b1 := T.2.2.2.2 (p + 1)
  obtain ⟨F1, -, F3, -⟩ := grS_f (s := s) (t := tb) (n := 120 * tb + a) (x := c p) (y := y) (o := o) (by omega) (fun z => by have := hpr z; exact ⟨by omega, by omega, fun w => by have := this.2.2.2.2 w; omega⟩)
  have e := Model_begin_z (m := m + 1) (h := h) (s := lS s tb (120 * tb + a) (c p) y o) (n := 120 * tb + a) (o := o) (by unfold lS; rw [mI_1, if_neg (by decide), F1]; exact ho) hob.1 (by omega)
  have key : Model_readLetter_jn90 (ax_F (m + 2)) (some 24) (Int32.ofInt tb) (Int32.ofInt p) (Int32.ofInt (c p)) (Int32.ofInt (120 * tb + a)) (mH h (lS s tb (120 * tb + a) (c p) y o)) = some (.inl (some (ax_I (Int32.ofInt (if c (p + 1) = 40 then p + 2 else -1 - (p + 1))))), mH h (bS (lS s tb (120 * tb + a) (c p) y o) (120 * tb + a) o (if c p = 85 then 2 else 3))) := by
    have T' : ∀ k, isT (bS (lS s tb (120 * tb + a) (c p) y o) (120 * tb + a) o k) tb c := fun k => by
      refine isT_of (grS_isT (x := c p) (y := y) R' rfl) ?_ ?_
      · unfold bS; rw [mI_2, mI_2, mU_ne _ _ _ _ _ (by decide), mU_ne _ _ _ _ _ (by decide)]
      · unfold bS; rw [mI_2, mI_2, mU_ne _ _ _ _ _ (by decide), mU_ne _ _ _ _ _ (by decide)]
    unfold Model_readLetter_jn90 Model_readLetter_jn109
    rw [mS_on, pl_cv e]
    have fin : ∀ k : Int, ((ax_pf (mH h (mI (mU (mU (lS s tb (120 * tb + a) (c p) y o) 27 o (120 * tb + a)) 28 o (-1)) 26 (o + 1))) (some 24) 9 38 (ax_I (Int32.ofInt k))).bind fun h10 => ax_on h10 (some 24) 9 (ax_ci (ax_F (m + 2) 155 [ax_A (some 24), ax_I (Int32.ofInt tb), ax_I (Int32.ofInt p + 1)] h10) fun v12 h11 => if v12 = 40 then ax_ri (Int32.ofInt p + 2) h11 else ax_ri ((-1) - (Int32.ofInt p + 1)) h11)) = some (.inl (some (ax_I (Int32.ofInt (if c (p + 1) = 40 then p + 2 else -1 - (p + 1))))), mH h (bS (lS s tb (120 * tb + a) (c p) y o) (120 * tb + a) o k)) := fun k => by
      rw [mpf_38, Option.bind_some, mS_on, show (-1 : Int32) = Int32.ofInt (-1) from rfl, show (1 : Int32) = Int32.ofInt 1 from rfl, show (2 : Int32) = Int32.ofInt 2 from rfl, zi_add, zi_add, zi_sub]
      have l := Model_look_z (n := m + 1) (h := h) (T' k) (by omega) (by omega) (p := p + 1) (by omega) (by omega)
      refine Eq.trans (pl_ci l) ?_
      by_cases q : c (p + 1) = 40
      · rw [if_pos q, if_pos (show Int32.ofInt (c (p + 1)) = 40 from by rw [q]; rfl)]; rfl
      · rw [if_neg q, if_neg (show ¬ Int32.ofInt (c (p + 1)) = 40 from by rw [show (40 : Int32) = Int32.ofInt 40 from rfl, zi_eq (by omega) (by omega) (by omega) (by omega)]; exact q)]; rfl
    rcases hx with q | q
    · rw [if_pos (show Int32.ofInt (c p) = 85 from by rw [q]; rfl)]
      have := fin 2
      rw [if_pos q]
      exact this
    · rw [if_neg (show ¬ Int32.ofInt (c p) = 85 from by rw [q]; decide)]
      have := fin 3
      rw [if_neg (show ¬ c p = 85 by omega)]
      exact this
  refine Model_letter_pre (m := m) R' y0 y1 (Or.inr ⟨by rcases hx with q | q; exact Or.inr (Or.inl q); exact Or.inr (Or.inr q), ho5⟩) hpar _ ?_
  rw [if_neg (show ¬ Int32.ofInt (c p) = 69 from by rcases hx with q | q <;> rw [q] <;> decide), if_neg (show ¬ Int32.ofInt (c p) = 65 from by rcases hx with q | q <;> rw [q] <;> decide), key]
  rcases hx with q | q
  · rw [if_pos (show Int32.ofInt (c p) = 85 from by rw [q]; rfl)]
  · rw [if_neg (show ¬ Int32.ofInt (c p) = 85 from by rw [q]; decide), if_pos (show Int32.ofInt (c p) = 82 from by rw [q]; rfl)]
theorem Model_letter_no {m : Nat} {h : ax_Hp} {s : mS} {c : Int → Int} {tb p y : Int} (T : isT s tb c) (htb : tb = 0 ∨ tb = 1) (hp : 0 ≤ p ∧ p ≤ 160) (e : ax_F (m + 2) 172 [ax_A (some 24), ax_I (Int32.ofInt (c p))] (mH h s) = some (.inl (some (ax_I (Int32.ofInt 0))), mH h s)) : ax_F (m + 3) 171 [ax_A (some 24), ax_I (Int32.ofInt tb), ax_I (Int32.ofInt p), ax_I (Int32.ofInt y)] (mH h s) = some (.inl (some (ax_I (Int32.ofInt (-1 - p)))), mH h s) := by
  rw [Model_readLetter_F]
  unfold Model_readLetter_b
  rw [mS_on, pl_ci (Model_look_z T (by omega) (by omega) hp.1 (by omega)), mS_on, pl_ci e, if_pos (show Int32.ofInt 0 = 0 from rfl), show (-1 : Int32) = Int32.ofInt (-1) from rfl, zi_sub]
  rfl
