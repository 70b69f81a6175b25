section RGX
variable {g : ax_Hp} {rv cu sr sw sd dr di N lw lr : Nat} {w r b : Int → Int} {we wn wu re rn ru f0 : Nat → Int}
theorem rsR_fs {R : ax_O} {o : Option (List Int)} {e : Int} {L : List Int} {fs fs1 : Nat → Int} {a0 a1 : Int} (h : rsR g cu sr sw N dr di f0 R o e L fs1 a0 a1) (hf : ∀ i : Nat, (i : Int) < a0 ∨ a1 ≤ i → fs1 i = fs i) : rsR g cu sr sw N dr di f0 R o e L fs a0 a1 := by
  obtain ⟨q', x', L', fs', h1, h2, h3, h4⟩ := h
  exact ⟨q', x', L', fs', h1, h2, h3, fun i hi => (h4 i hi).trans (hf i hi)⟩
theorem spSc_A1 {c b : Int → Int} {D : Nat} {t q : Int} (h1 : c t = 65) : spSc c b (D + 1) t q = spSa b (spSc c b D (t + 1)) 21 20 q := by
  rw [spSc_s]
  unfold spS1
  rw [if_pos h1]
theorem spSc_U1 {c b : Int → Int} {D : Nat} {t q : Int} (h1 : c t = 85) : spSc c b (D + 1) t q = if hfO b (spPt c (D + 1) t).length q then spSc c b D ((spPt c (D + 1) t).getD (b q / 2).toNat 0) (q + 1) else -1 - q := by
  rw [spSc_s]
  unfold spS1
  rw [if_neg (by omega), if_pos h1]
theorem spSc_R1 {c b : Int → Int} {D : Nat} {t q : Int} (h1 : c t = 82) : spSc c b (D + 1) t q = spSf (spSc c b D) (spPt c (D + 1) t) q := by
  rw [spSc_s]
  unfold spS1
  rw [if_neg (by omega), if_neg (by omega), if_pos h1]
theorem Rv_bc {m : Nat} {q : Int} {x : Int64} {L : List Int} {fs : Nat → Int} {a0 a1 y : Int} (X : rvX g rv cu sr sw sd dr di N lw lr w r b we wn wu re rn ru) (hL : L.length ≤ 400) : rsR g cu sr sw N dr di f0 (Resolver_resolve_jn243 (ax_F (m + 1)) (Int32.ofInt y) (some dr) (dH g cu sr sw N dr di f0 q x L fs)) (some [y]) q L fs a0 a1 := by
  unfold Resolver_resolve_jn243
  rw [dH_dron]
  exact rsR_t (rsR_a (m := m) X hL)
theorem Rv_nm {m : Nat} {q : Int} {x : Int64} {L : List Int} {fs : Nat → Int} {a0 a1 : Int} {lg : Bool} (X : rvX g rv cu sr sw sd dr di N lw lr w r b we wn wu re rn ru) (q0 : 0 ≤ q) (q1 : q ≤ N) (hS : 0 ≤ spNr b lg q) (hL : L.length ≤ 400) : rsR g cu sr sw N dr di f0 ((ax_gr (dH g cu sr sw N dr di f0 q x L fs) (some rv) 1 1).bind fun v20 => ax_on (dH g cu sr sw N dr di f0 q x L fs) v20 5 <| ax_ci (ax_F (m + 2) 113 [ax_A v20, ax_I (Int32.ofInt (nrB lg))] (dH g cu sr sw N dr di f0 q x L fs)) fun v22 h21 => if v22 = 0 then ax_rz 0 h21 else (ax_gr h21 (some rv) 1 1).bind fun v23 => ax_on h21 v23 5 <| ax_cl (ax_F (m + 2) 129 [ax_A v23] h21) fun v25 h24 => ax_on h24 (some rv) 1 <| ax_ci (ax_F (m + 2) 130 [ax_A (some rv), ax_L v25] h24) fun v27 h26 => if v27 = 0 then ax_rz 0 h26 else ax_rz 1 h26) (some (decL (spNv b lg q))) (spNr b lg q) L fs a0 a1 := by
  rw [dH_1 X, Option.bind_some, dH_sron X, pl_ci (Rv_num X q0 q1), if_pos hS, if_pos hS, if_pos hS, if_neg (show ¬ Int32.ofInt 1 = 0 from by decide), dH_1 X, Option.bind_some, dH_sron X, pl_cl (Rv_nu X), dH_on X]
  exact rsR_t (Rv_dec X hL)
/-- the class says a leaf -/
theorem Rv_lf {m : Nat} {q t u dep : Int} {x : Int64} {L : List Int} {fs : Nat → Int} {a0 a1 : Int} (X : rvX g rv cu sr sw sd dr di N lw lr w r b we wn wu re rn ru) (q0 : 0 ≤ q) (q1 : q ≤ N) (u0 : 0 ≤ u) (t0 : 0 ≤ t) (hk : isPl (w u) ∨ (w u = 69 ∧ 0 ≤ spE w u ∧ r t = 69 ∧ 0 ≤ spE r t ∧ re t.toNat = spE r t)) (hS : 0 ≤ spSl w b u q) (hL : L.length ≤ 400) : rsR g cu sr sw N dr di f0 (Resolver_resolve_jn108 (ax_F (m + 3)) (some rv) (Int32.ofInt u) (Int32.ofInt t) (Int32.ofInt dep) (Int32.ofInt (w u)) (dH g cu sr sw N dr di f0 q x L fs)) (rxP r w b t u q) (spSl w b u q) L fs a0 a1 := by
  have kb : 0 ≤ w u ∧ w u < 128 := (Sa_lt (verX_A (dH_W (f0 := f0) (q := q) (x := x) (L := L) (fs := fs) X))).2.2.1 u
  have ek : (Int32.ofInt (w u)).toInt = w u := zi_toInt (by omega) (by omega)
  unfold Resolver_resolve_jn108
  rcases hk with (h | h | h | h | h) | ⟨h, h1, h2, h3, h4⟩
  · have e1 : spSl w b u q = q := by unfold spSl; rw [if_pos h]
    have e2 : rxP r w b t u q = some [78] := by unfold rxP; rw [if_pos h]
    rw [e1, e2]
    rw [h] at ek ⊢
    simp only [ek, Int.reduceEq, ↓reduceIte]
    rw [dH_4 X, Option.bind_some, dH_dron]
    exact rsR_z (rsR_a (m := m + 2) (y := 78) X hL)
  · have e1 : spSl w b u q = if b q = 0 ∨ b q = 1 then q + 1 else -1 - q := by unfold spSl; rw [if_neg (by omega), if_pos h]
    have e2 : rxP r w b t u q = some [if b q = 1 then 84 else 70] := by unfold rxP; rw [if_neg (by omega), if_pos h]
    rw [e1] at hS ⊢
    rw [e2]
    rw [h] at ek ⊢
    by_cases c : b q = 0 ∨ b q = 1
    · rw [if_pos c]
      simp only [ek, Int.reduceEq, ↓reduceIte]
      rw [dH_1 X, Option.bind_some, dH_sron X, pl_ci (Rv_bool X q0 q1), if_pos c, if_pos c, if_neg (show ¬ Int32.ofInt 1 = 0 from by decide), dH_4 X, Option.bind_some, dH_1 X, Option.bind_some, dH_sron X, pl_cl (Rv_nu X)]
      rcases c with c | c
      · rw [c, if_neg (show ¬ lg_cmp (Int64.ofInt 0) 1 = 0 from by decide), if_neg (show ¬ (0 : Int) = 1 by decide)]
        exact Rv_bc (y := 70) X hL
      · rw [c, if_pos (show lg_cmp (Int64.ofInt 1) 1 = 0 from by decide), if_pos rfl]
        exact Rv_bc (y := 84) X hL
    · rw [if_neg c] at hS; omega
  · have e1 : spSl w b u q = spNr b false q := by unfold spSl; rw [if_neg (by omega), if_neg (by omega), if_neg (by omega), if_neg (by omega), decide_eq_false (by omega)]
    have e2 : rxP r w b t u q = some (decL (spNv b false q)) := by unfold rxP; rw [if_neg (by omega), if_neg (by omega), if_neg (by omega), if_neg (by omega), decide_eq_false (by omega)]
    rw [e1] at hS ⊢
    rw [e2]
    rw [h] at ek ⊢
    simp only [ek, Int.reduceEq, ↓reduceIte]
    exact Rv_nm (m := m + 1) (lg := false) X q0 q1 hS hL
  · have e1 : spSl w b u q = spNr b true q := by unfold spSl; rw [if_neg (by omega), if_neg (by omega), if_neg (by omega), if_neg (by omega), decide_eq_true h]
    have e2 : rxP r w b t u q = some (decL (spNv b true q)) := by unfold rxP; rw [if_neg (by omega), if_neg (by omega), if_neg (by omega), if_neg (by omega), decide_eq_true h]
    rw [e1] at hS ⊢
    rw [e2]
    rw [h] at ek ⊢
    simp only [ek, Int.reduceEq, ↓reduceIte]
    exact Rv_nm (m := m + 1) (lg := true) X q0 q1 hS hL
  · have e1 : spSl w b u q = spSt b q := by unfold spSl; rw [if_neg (by omega), if_neg (by omega), if_neg (by omega), if_pos h]
    have e2 : rxP r w b t u q = some (34 :: rxS b (b q / 2).toNat (q + 1)) := by unfold rxP; rw [if_neg (by omega), if_neg (by omega), if_neg (by omega), if_pos h]
    rw [e1] at hS ⊢
    rw [e2]
    rw [h] at ek ⊢
    simp only [ek, Int.reduceEq, ↓reduceIte]
    rw [dH_on X]
    exact rsR_z (Rv_str X q0 q1 hS hL)
  · have e1 : spSl w b u q = spHf b (spSy w (u + 2) 8 0) q := by unfold spSl; rw [if_neg (by omega), if_neg (by omega), if_pos h]
    have e2 : rxP r w b t u q = rxY r t (w (u + 2 + b q / 2)) := by unfold rxP; rw [if_neg (by omega), if_neg (by omega), if_pos h]
    rw [e1] at hS ⊢
    rw [e2]
    unfold spHf at hS ⊢
    by_cases c : hfO b (spSy w (u + 2) 8 0) q
    · rw [if_pos c]
      have S := Rv_sym (m := m) (f0 := f0) (x := x) (fs := fs) (a0 := a0) (a1 := a1) X q0 q1 u0 t0 h h2 h1 h3 h4 c hL
      rw [h] at ek ⊢
      simp only [ek, Int.reduceEq, ↓reduceIte]
      rw [dH_on X]
      exact rsR_z S
    · rw [if_neg c] at hS; omega
end RGX
