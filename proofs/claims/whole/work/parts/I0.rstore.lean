/-- the working cells of a resolving call: cursor, number, target row, starts of fields -/
def dH (g : ax_Hp) (cu sr sw N dr di : Nat) (f0 : Nat → Int) (q : Int) (x : Int64) (L : List Int) (fs : Nat → Int) : ax_Hp := rH (sH (ax_set g 23 (.inr (1, arL 160 fs))) cu sr sw N q x) dr di f0 L
/-- the resolver rv: w the writer's text, r the reader's -/
def rvX (g : ax_Hp) (rv cu sr sw sd dr di N lw lr : Nat) (w r b : Int → Int) (we wn wu re rn ru : Nat → Int) : Prop := g.2.2 rv = some (.inl (1, [ax_A (some cu), ax_A (some sr), ax_A (some sw), ax_A (some sd), ax_A (some dr), ax_A (some 23)])) ∧ rv ≠ cu ∧ rv ≠ sr ∧ 60 ≤ rv ∧ dr < 60 ∧ di < 60 ∧ dr ≠ di ∧ dr ≠ 23 ∧ di ≠ 23 ∧ dr ≠ 9 ∧ di ≠ 9 ∧ stX g cu sr sw N b ∧ verX g sw lw w we wn wu ∧ verX g sd lr r re rn ru ∧ sd + 5 < cu ∧ sd + 5 < sr
section RVX
variable {g : ax_Hp} {rv cu sr sw sd dr di N lw lr : Nat} {w r b : Int → Int} {we wn wu re rn ru f0 : Nat → Int} {q q' : Int} {x x' : Int64} {L : List Int} {fs : Nat → Int}
theorem dH_s (R : rvX g rv cu sr sw sd dr di N lw lr w r b we wn wu re rn ru) : dH g cu sr sw N dr di f0 q x L fs = sH (rH (ax_set g 23 (.inr (1, arL 160 fs))) dr di f0 L) cu sr sw N q x := by
  obtain ⟨r1, r2, r3, r4, r5, r6, r7, r8, r9, r10, r11, X, -⟩ := R
  obtain ⟨x1, x2, x3, x4, -⟩ := X
  unfold dH
  refine Prod.ext rfl (Prod.ext rfl ?_)
  funext a
  by_cases c1 : a = dr
  · rw [c1, rH_dr, sH_o (by omega) (by omega), rH_dr]
  · by_cases c2 : a = di
    · rw [c2, rH_di _ _ _ r7, sH_o (by omega) (by omega), rH_di _ _ _ r7]
    · rw [rH_o c1 c2]
      by_cases c3 : a = cu
      · rw [c3, sH_cu x1, sH_cu x1]
      · by_cases c4 : a = sr
        · rw [c4, sH_sr, sH_sr]
        · rw [sH_o c3 c4, sH_o c3 c4, rH_o c1 c2]
theorem dH_o (R : rvX g rv cu sr sw sd dr di N lw lr w r b we wn wu re rn ru) {a : Nat} (h1 : a ≠ cu) (h2 : a ≠ sr) (h3 : a ≠ dr) (h4 : a ≠ di) (h5 : a ≠ 23) : (dH g cu sr sw N dr di f0 q x L fs).2.2 a = g.2.2 a := by
  unfold dH
  rw [rH_o h3 h4, sH_o h1 h2, pl_ne h5]
theorem dH_fs (R : rvX g rv cu sr sw sd dr di N lw lr w r b we wn wu re rn ru) : (dH g cu sr sw N dr di f0 q x L fs).2.2 23 = some (.inr (1, arL 160 fs)) := by
  obtain ⟨r1, r2, r3, r4, r5, r6, r7, r8, r9, r10, r11, X, -⟩ := R
  obtain ⟨x1, x2, x3, x4, -⟩ := X
  unfold dH
  rw [rH_o (by omega) (by omega), sH_o (by omega) (by omega), pl_set]
theorem dH_rv (R : rvX g rv cu sr sw sd dr di N lw lr w r b we wn wu re rn ru) : (dH g cu sr sw N dr di f0 q x L fs).2.2 rv = some (.inl (1, [ax_A (some cu), ax_A (some sr), ax_A (some sw), ax_A (some sd), ax_A (some dr), ax_A (some 23)])) := by
  obtain ⟨r1, r2, r3, r4, r5, r6, -⟩ := id R
  rw [dH_o R r2 r3 (by omega) (by omega) (by omega)]
  exact r1
theorem dH_on (R : rvX g rv cu sr sw sd dr di N lw lr w r b we wn wu re rn ru) (k : ax_O) : ax_on (dH g cu sr sw N dr di f0 q x L fs) (some rv) 1 k = k := pl_on (dH_rv R)
theorem dH_0 (R : rvX g rv cu sr sw sd dr di N lw lr w r b we wn wu re rn ru) : ax_gr (dH g cu sr sw N dr di f0 q x L fs) (some rv) 1 0 = some (some cu) := pl_gr (dH_rv R) rfl
theorem dH_1 (R : rvX g rv cu sr sw sd dr di N lw lr w r b we wn wu re rn ru) : ax_gr (dH g cu sr sw N dr di f0 q x L fs) (some rv) 1 1 = some (some sr) := pl_gr (dH_rv R) rfl
theorem dH_2 (R : rvX g rv cu sr sw sd dr di N lw lr w r b we wn wu re rn ru) : ax_gr (dH g cu sr sw N dr di f0 q x L fs) (some rv) 1 2 = some (some sw) := pl_gr (dH_rv R) rfl
theorem dH_3 (R : rvX g rv cu sr sw sd dr di N lw lr w r b we wn wu re rn ru) : ax_gr (dH g cu sr sw N dr di f0 q x L fs) (some rv) 1 3 = some (some sd) := pl_gr (dH_rv R) rfl
theorem dH_4 (R : rvX g rv cu sr sw sd dr di N lw lr w r b we wn wu re rn ru) : ax_gr (dH g cu sr sw N dr di f0 q x L fs) (some rv) 1 4 = some (some dr) := pl_gr (dH_rv R) rfl
theorem dH_5 (R : rvX g rv cu sr sw sd dr di N lw lr w r b we wn wu re rn ru) : ax_gr (dH g cu sr sw N dr di f0 q x L fs) (some rv) 1 5 = some (some 23) := pl_gr (dH_rv R) rfl
theorem dH_V (R : rvX g rv cu sr sw sd dr di N lw lr w r b we wn wu re rn ru) {sc l : Nat} {c : Int → Int} {fe fn fu : Nat → Int} (V : verX g sc l c fe fn fu) (h1 : sc + 5 < cu) (h2 : sc + 5 < sr) : verX (dH g cu sr sw N dr di f0 q x L fs) sc l c fe fn fu := by
  obtain ⟨r1, r2, r3, r4, r5, r6, -⟩ := id R
  have v7 := V.2.2.2.2.2.2.1
  have v8 := V.2.2.2.2.2.2.2.1
  exact verX_k2 V v8 (fun a a1 a2 => dH_o R (by omega) (by omega) (by omega) (by omega) (by omega))
theorem dH_W (R : rvX g rv cu sr sw sd dr di N lw lr w r b we wn wu re rn ru) : verX (dH g cu sr sw N dr di f0 q x L fs) sw lw w we wn wu := by
  obtain ⟨-, -, -, -, -, -, -, -, -, -, -, X, V, W, -⟩ := id R
  exact dH_V R V X.2.1 X.2.2.1
theorem dH_R (R : rvX g rv cu sr sw sd dr di N lw lr w r b we wn wu re rn ru) : verX (dH g cu sr sw N dr di f0 q x L fs) sd lr r re rn ru := by
  obtain ⟨-, -, -, -, -, -, -, -, -, -, -, X, V, W, h1, h2⟩ := id R
  exact dH_V R W h1 h2
/-- the heap below the stream's cells -/
theorem dH_X (R : rvX g rv cu sr sw sd dr di N lw lr w r b we wn wu re rn ru) : stX (rH (ax_set g 23 (.inr (1, arL 160 fs))) dr di f0 L) cu sr sw N b ∧ verX (rH (ax_set g 23 (.inr (1, arL 160 fs))) dr di f0 L) sw lw w we wn wu := by
  obtain ⟨r1, r2, r3, r4, r5, r6, r7, r8, r9, r10, r11, X, V, -⟩ := id R
  obtain ⟨x1, x2, x3, x4, x5, x6, fb, x7, x8⟩ := X
  exact ⟨⟨x1, x2, x3, x4, x5, x6, fb, by rw [rH_o (by omega) (by omega), pl_ne (by decide)]; exact x7, x8⟩, verX_k2 V V.2.2.2.2.2.2.2.1 (fun a a1 a2 => by rw [rH_o (by omega) (by omega), pl_ne (by omega)])⟩
theorem dH_sron (R : rvX g rv cu sr sw sd dr di N lw lr w r b we wn wu re rn ru) (k : ax_O) : ax_on (dH g cu sr sw N dr di f0 q x L fs) (some sr) 5 k = k := by rw [dH_s R]; exact sH_sron k
theorem dH_cuon (R : rvX g rv cu sr sw sd dr di N lw lr w r b we wn wu re rn ru) (k : ax_O) : ax_on (dH g cu sr sw N dr di f0 q x L fs) (some cu) 0 k = k := by rw [dH_s R]; exact sH_cuon (dH_X R (fs := fs) (f0 := f0) (L := L)).1.1 k
theorem dH_dron (k : ax_O) : ax_on (dH g cu sr sw N dr di f0 q x L fs) (some dr) 2 k = k := rH_on k
/-- the class adds to the target -/
theorem Rv_add {m : Nat} {y : Int} (R : rvX g rv cu sr sw sd dr di N lw lr w r b we wn wu re rn ru) (hL : L.length ≤ 400) : ax_F (m + 1) 8 [ax_A (some dr), ax_I (Int32.ofInt y)] (dH g cu sr sw N dr di f0 q x L fs) = some (.inl (some (ax_I (Int32.ofInt (if L.length < 400 then 1 else 0)))), dH g cu sr sw N dr di f0 q x (if L.length < 400 then L ++ [y] else L) fs) := Ro_addL R.2.2.2.2.2.2.1 hL
theorem Rv_mov {m : Nat} (R : rvX g rv cu sr sw sd dr di N lw lr w r b we wn wu re rn ru) : ax_F (m + 1) 125 [ax_A (some cu), ax_I (Int32.ofInt q')] (dH g cu sr sw N dr di f0 q x L fs) = some (.inl none, dH g cu sr sw N dr di f0 q' x L fs) := by
  rw [dH_s R, dH_s R, Cursor_moveTo_F]
  unfold Cursor_moveTo_b
  rw [sH_pfc (dH_X R (fs := fs) (f0 := f0) (L := L)).1.1]
  rfl
theorem Rv_at {m : Nat} (R : rvX g rv cu sr sw sd dr di N lw lr w r b we wn wu re rn ru) : ax_F (m + 1) 27 [ax_A (some cu)] (dH g cu sr sw N dr di f0 q x L fs) = some (.inl (some (ax_I (Int32.ofInt q))), dH g cu sr sw N dr di f0 q x L fs) := by
  rw [dH_s R]
  exact St_at (dH_X R (fs := fs) (f0 := f0) (L := L)).1.1
theorem Rv_nu {m : Nat} (R : rvX g rv cu sr sw sd dr di N lw lr w r b we wn wu re rn ru) : ax_F (m + 1) 129 [ax_A (some sr)] (dH g cu sr sw N dr di f0 q x L fs) = some (.inl (some (ax_L x)), dH g cu sr sw N dr di f0 q x L fs) := by
  rw [dH_s R, StreamReader_number_F]
  unfold StreamReader_number_b
  rw [sH_gl2]
  rfl
theorem Rv_cnt {m : Nat} {mo : Int} (R : rvX g rv cu sr sw sd dr di N lw lr w r b we wn wu re rn ru) (q0 : 0 ≤ q) (q1 : q ≤ 1000) (m0 : -1 ≤ mo) (m1 : mo ≤ 1000) : ax_F (m + 2) 115 [ax_A (some sr), ax_I (Int32.ofInt mo)] (dH g cu sr sw N dr di f0 q x L fs) = some (.inl (some (ax_I (Int32.ofInt (if hfO b (mo + 1) q then 1 else 0)))), dH g cu sr sw N dr di f0 (if hfO b (mo + 1) q then q + 1 else q) (if hfO b (mo + 1) q then Int64.ofInt (b q / 2) else x) L fs) := by
  rw [dH_s R, dH_s R]
  exact Sr_cnt (dH_X R).1 q0 q1 m0 m1
theorem Rv_num {m : Nat} {lg : Bool} (R : rvX g rv cu sr sw sd dr di N lw lr w r b we wn wu re rn ru) (q0 : 0 ≤ q) (q1 : q ≤ N) : ax_F (m + 2) 113 [ax_A (some sr), ax_I (Int32.ofInt (nrB lg))] (dH g cu sr sw N dr di f0 q x L fs) = some (.inl (some (ax_I (Int32.ofInt (if 0 ≤ spNr b lg q then 1 else 0)))), dH g cu sr sw N dr di f0 (if 0 ≤ spNr b lg q then spNr b lg q else -1 - spNr b lg q) (if 0 ≤ spNr b lg q then spNv b lg q else x) L fs) := by
  rw [dH_s R, dH_s R]
  exact Sr_num (dH_X R).1 q0 q1
theorem Rv_bool {m : Nat} (R : rvX g rv cu sr sw sd dr di N lw lr w r b we wn wu re rn ru) (q0 : 0 ≤ q) (q1 : q ≤ N) : ax_F (m + 2) 112 [ax_A (some sr)] (dH g cu sr sw N dr di f0 q x L fs) = some (.inl (some (ax_I (Int32.ofInt (if b q = 0 ∨ b q = 1 then 1 else 0)))), dH g cu sr sw N dr di f0 (if b q = 0 ∨ b q = 1 then q + 1 else q) (Int64.ofInt (b q)) L fs) := by
  rw [dH_s R, dH_s R]
  exact Sr_bool (dH_X R).1 q0 q1
theorem Rv_chr {m : Nat} (R : rvX g rv cu sr sw sd dr di N lw lr w r b we wn wu re rn ru) (q0 : 0 ≤ q) (q1 : q ≤ N) : ax_F (m + 2) 116 [ax_A (some sr)] (dH g cu sr sw N dr di f0 q x L fs) = some (.inl (some (ax_I (Int32.ofInt (if chO b q then 1 else 0)))), dH g cu sr sw N dr di f0 (if chO b q then q + 1 else q) (if chO b q then Int64.ofInt (b q) else x) L fs) := by
  rw [dH_s R, dH_s R]
  exact Sr_chr (dH_X R).1 q0 q1
theorem Rv_rb {n : Nat} {t : Int} {fl : List Int} (R : rvX g rv cu sr sw sd dr di N lw lr w r b we wn wu re rn ru) (hf : ∃ k, fl = (t + 2) :: k) (h4 : fl.length ≤ 4) (hn : nxC wn fl) (hy : ∀ y ∈ fl, 0 ≤ y ∧ y < lw) (q0 : 0 ≤ q) (q1 : q ≤ N) : ax_F (n + 3) 120 [ax_A (some sr), ax_I (Int32.ofInt t)] (dH g cu sr sw N dr di f0 q x L fs) = some (.inl (some (ax_I (Int32.ofInt (if hfO b fl.length q then fl.getD (b q / 2).toNat 0 else -1)))), dH g cu sr sw N dr di f0 (if hfO b fl.length q then q + 1 else q) (if hfO b fl.length q then Int64.ofInt (b q / 2) else x) L fs) := by
  rw [dH_s R, dH_s R]
  obtain ⟨X, V⟩ := dH_X R (fs := fs) (f0 := f0) (L := L)
  exact Sk_rb X V hf h4 hn hy q0 q1
/-- the class skips one of the writer's fields -/
theorem Rv_skip {D m : Nat} {t : Int} (R : rvX g rv cu sr sw sd dr di N lw lr w r b we wn wu re rn ru) (hD : D ≤ 6) (t0 : 0 ≤ t) (hT : 0 ≤ spTy w D t) (hM : MkN wn w D t) (q0 : 0 ≤ q) (q1 : q ≤ N) : ∃ x', ax_F (m + 3 * D + 5) 137 [ax_A (some sr), ax_I (Int32.ofInt t)] (dH g cu sr sw N dr di f0 q x L fs) = some (.inl (some (ax_I (Int32.ofInt (if 0 ≤ spSc w b D t q then 1 else 0)))), dH g cu sr sw N dr di f0 (if 0 ≤ spSc w b D t q then spSc w b D t q else -1 - spSc w b D t q) x' L fs) := by
  obtain ⟨X, V⟩ := dH_X R (fs := fs) (f0 := f0) (L := L)
  obtain ⟨x', e⟩ := Sk_all X V D m q t 0 x (by omega) (by omega) t0 hT hM q0 q1
  refine ⟨x', ?_⟩
  rw [dH_s R, dH_s R, StreamReader_skipField_F]
  unfold StreamReader_skipField_b
  rw [sH_sron, pl_ci (show ax_F (m + 3 * D + 4) 111 [ax_A (some sr), ax_I (Int32.ofInt t), ax_I 0] _ = _ from e)]
  exact za_rz rz_b
/-- the start of a field is noted -/
theorem Rv_note {m : Nat} {t : Int} (R : rvX g rv cu sr sw sd dr di N lw lr w r b we wn wu re rn ru) (t0 : 0 ≤ t) (t1 : t < 160) : ax_F (m + 2) 136 [ax_A (some rv), ax_I (Int32.ofInt t)] (dH g cu sr sw N dr di f0 q x L fs) = some (.inl (some (ax_I (Int32.ofInt 1))), dH g cu sr sw N dr di f0 q x L (fun i => if i = t.toNat then q else fs i)) := by
  have e := dH_fs (f0 := f0) (q := q) (x := x) (L := L) (fs := fs) R
  have hs : ax_set (dH g cu sr sw N dr di f0 q x L fs) 23 (.inr (1, arL 160 (fun i => if i = t.toNat then q else fs i))) = dH g cu sr sw N dr di f0 q x L (fun i => if i = t.toNat then q else fs i) := by
    obtain ⟨r1, r2, r3, r4, r5, r6, r7, r8, r9, r10, r11, X, -⟩ := id R
    obtain ⟨x1, x2, x3, x4, -⟩ := X
    refine Prod.ext rfl (Prod.ext rfl ?_)
    funext a
    by_cases c1 : a = 23
    · rw [c1, pl_set, dH_fs R]
    · rw [pl_ne c1]
      unfold dH
      by_cases c2 : a = dr
      · rw [c2, rH_dr, rH_dr]
      · by_cases c3 : a = di
        · rw [c3, rH_di _ _ _ r7, rH_di _ _ _ r7]
        · rw [rH_o c2 c3, rH_o c2 c3]
          by_cases c4 : a = cu
          · rw [c4, sH_cu x1, sH_cu x1]
          · by_cases c5 : a = sr
            · rw [c5, sH_sr, sH_sr]
            · rw [sH_o c4 c5, sH_o c4 c5, pl_ne c1, pl_ne c1]
  rw [Resolver_noteFieldStart_F]
  unfold Resolver_noteFieldStart_b
  rw [if_neg (show ¬ Int32.ofInt t < 0 from zi_n0 t0 (by omega)), dH_5 R, Option.bind_some, pl_len e, arL_len, Option.bind_some, if_pos (show Int32.ofInt t < Int32.ofNat 160 from by rw [show Int32.ofNat 160 = Int32.ofInt 160 from rfl, zi_lt (by omega) (by omega) (by omega) (by omega)]; exact t1), Option.bind_some, dH_0 R, Option.bind_some, dH_cuon R, pl_ci (Rv_at R), za_st e t0 (by omega) (by omega), hs, Option.bind_some]
  exact za_rz (v := 1) (Or.inr rfl)
end RVX
