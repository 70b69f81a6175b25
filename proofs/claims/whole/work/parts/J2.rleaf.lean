section RLX
variable {g : ax_Hp} {rv cu sr sw sd dr di N lw lr : Nat} {w r b : Int → Int} {we wn wu re rn ru f0 : Nat → Int} {q : Int} {x : Int64} {L : List Int} {fs : Nat → Int} {a0 a1 : Int}
/-- one more is said, and then the rest -/
theorem rsR_p {m : Nat} {y e : Int} {o : Option (List Int)} {K : ax_Hp → ax_O} (X : rvX g rv cu sr sw sd dr di N lw lr w r b we wn wu re rn ru) (hL : L.length ≤ 400) (h2 : (L ++ [y]).length ≤ 400 → rsR g cu sr sw N dr di f0 (K (dH g cu sr sw N dr di f0 q x (L ++ [y]) fs)) o e (L ++ [y]) fs a0 a1) : rsR g cu sr sw N dr di f0 (ax_ci (ax_F (m + 1) 8 [ax_A (some dr), ax_I (Int32.ofInt y)] (dH g cu sr sw N dr di f0 q x L fs)) (fun v h => if v = 0 then ax_rz 0 h else K h)) (cat2 (some [y]) o) e L fs a0 a1 := by
  rw [pl_ci (Rv_add X hL)]
  by_cases c : L.length < 400
  · rw [if_pos c, if_pos c, if_neg (show ¬ Int32.ofInt 1 = 0 from by decide)]
    exact rsR_c (h2 (by rw [List.length_append, List.length_singleton]; omega)) (fun _ _ => rfl)
  · rw [if_neg c, if_neg c, if_pos (show Int32.ofInt 0 = 0 from rfl)]
    exact rsR_f (okL_cf (decide_eq_false (by show ¬ L.length + 1 ≤ 400; omega))) hL (fun _ _ => rfl)
theorem zl_32 {z : Int} (h0 : 0 ≤ z) (h1 : z < 128) : (Int64.ofInt z).toInt32 = Int32.ofInt z := by
  have := zb_32 z.toNat (by omega)
  rw [Int.toNat_of_nonneg h0] at this
  exact this
theorem Rv_strL {m n : Nat} (X : rvX g rv cu sr sw sd dr di N lw lr w r b we wn wu re rn ru) (hn : n ≤ 12) : ∀ (k : Nat) (i : Nat) (q : Int) (x : Int64) (L : List Int) (fuel : Nat), i + k = n → 0 ≤ q → q ≤ N → 0 ≤ stE b k q → L.length ≤ 400 → k < fuel → rsR g cu sr sw N dr di f0 (Resolver_resolveString_lp37 (ax_F (m + 2)) fuel (some rv) (Int32.ofInt n) (Int32.ofInt i) (dH g cu sr sw N dr di f0 q x L fs)) (some (rxS b k q)) (stE b k q) L fs a0 a1
  | 0, i, q, x, L, fuel, hi, q0, q1, hS, hL, hf => by
    obtain ⟨fuel, rfl⟩ : ∃ g, fuel = g + 1 := ⟨fuel - 1, by omega⟩
    have hstep : Resolver_resolveString_lp37 (ax_F (m + 2)) (fuel + 1) = Resolver_resolveString_bd37 (ax_F (m + 2)) (Resolver_resolveString_lp37 (ax_F (m + 2)) fuel) := rfl
    rw [hstep]
    unfold Resolver_resolveString_bd37
    rw [if_pos (show Int32.ofInt n ≤ Int32.ofInt i from by rw [zi_le (by omega) (by omega) (by omega) (by omega)]; omega), dH_4 X, Option.bind_some, dH_dron]
    exact rsR_z (rsR_a (m := m + 1) (y := 34) X hL)
  | k + 1, i, q, x, L, fuel, hi, q0, q1, hS, hL, hf => by
    obtain ⟨fuel, rfl⟩ : ∃ g, fuel = g + 1 := ⟨fuel - 1, by omega⟩
    have hstep : Resolver_resolveString_lp37 (ax_F (m + 2)) (fuel + 1) = Resolver_resolveString_bd37 (ax_F (m + 2)) (Resolver_resolveString_lp37 (ax_F (m + 2)) fuel) := rfl
    have es : stE b (k + 1) q = if chO b q then stE b k (q + 1) else -1 - q := rfl
    by_cases c : chO b q
    · rw [es, if_pos c] at hS ⊢
      have lt := (bSt_b X.2.2.2.2.2.2.2.2.2.2.2.1.2.2.2.2.2.1 q0).2.2.1 (by omega)
      rw [hstep]
      unfold Resolver_resolveString_bd37
      rw [if_neg (show ¬ Int32.ofInt n ≤ Int32.ofInt i from by rw [zi_le (by omega) (by omega) (by omega) (by omega)]; omega), dH_1 X, Option.bind_some, dH_sron X, pl_ci (Rv_chr X q0 q1), if_pos c, if_pos c, if_pos c, if_neg (show ¬ Int32.ofInt 1 = 0 from by decide), dH_4 X, Option.bind_some, dH_1 X, Option.bind_some, dH_sron X, pl_cl (Rv_nu X), dH_dron, zl_32 (by omega) (by omega)]
      refine rsR_p (m := m + 1) (y := b q) (o := some (rxS b k (q + 1))) X hL (fun hL' => ?_)
      rw [show (1 : Int32) = Int32.ofInt 1 from rfl, zi_add, show (i : Int) + 1 = ((i + 1 : Nat) : Int) by omega]
      have ih := Rv_strL (m := m) X hn k (i + 1) (q + 1) (Int64.ofInt (b q)) (L ++ [b q]) fuel (by omega) (by omega) (by omega) hS hL' (by omega)
      exact ih
    · rw [es, if_neg c] at hS
      omega
/-- the class says a string -/
theorem Rv_str {m : Nat} (X : rvX g rv cu sr sw sd dr di N lw lr w r b we wn wu re rn ru) (q0 : 0 ≤ q) (q1 : q ≤ N) (hS : 0 ≤ spSt b q) (hL : L.length ≤ 400) : rsR g cu sr sw N dr di f0 (ax_F (m + 3) 132 [ax_A (some rv)] (dH g cu sr sw N dr di f0 q x L fs)) (some (34 :: rxS b (b q / 2).toNat (q + 1))) (spSt b q) L fs a0 a1 := by
  have X' := X.2.2.2.2.2.2.2.2.2.2.2.1
  have nb := X'.2.2.2.2.1
  have es : spSt b q = if hfO b 13 q then stE b (b q / 2).toNat (q + 1) else -1 - q := rfl
  by_cases c : hfO b 13 q
  · rw [es, if_pos c] at hS ⊢
    have lt := (bSt_b X'.2.2.2.2.2.1 q0).2.2.1 c.1
    have c' : hfO b (12 + 1) q := c
    rw [Resolver_resolveString_F]
    unfold Resolver_resolveString_b
    rw [dH_1 X, Option.bind_some, dH_sron X, show (12 : Int32) = Int32.ofInt 12 from rfl, pl_ci (Rv_cnt X q0 (by omega) (by omega) (by omega)), if_pos c', if_pos c', if_pos c', if_neg (show ¬ Int32.ofInt 1 = 0 from by decide), dH_4 X, Option.bind_some, dH_dron]
    refine rsR_p (m := m + 1) (y := 34) (o := some (rxS b (b q / 2).toNat (q + 1))) X hL (fun hL' => ?_)
    rw [dH_1 X, Option.bind_some, dH_sron X, pl_cl (Rv_nu X), zl_32 (by omega) (by omega)]
    have := Rv_strL (m := m) (f0 := f0) (fs := fs) (a0 := a0) (a1 := a1) (n := (b q / 2).toNat) X (by omega) (b q / 2).toNat 0 (q + 1) (Int64.ofInt (b q / 2)) (L ++ [34]) ax_fuel (by omega) (by omega) (by omega) hS hL' (by unfold ax_fuel; omega)
    rw [show (((b q / 2).toNat : Nat) : Int) = b q / 2 by omega] at this
    exact this
  · rw [es, if_neg c] at hS
    omega
/-- the class says a symbol -/
theorem Rv_sym {m : Nat} {u t : Int} (X : rvX g rv cu sr sw sd dr di N lw lr w r b we wn wu re rn ru) (q0 : 0 ≤ q) (q1 : q ≤ N) (u0 : 0 ≤ u) (t0 : 0 ≤ t) (hu : w u = 69) (ht : r t = 69) (hEu : 0 ≤ spE w u) (hEt : 0 ≤ spE r t) (hf : re t.toNat = spE r t) (hS : hfO b (spSy w (u + 2) 8 0) q) (hL : L.length ≤ 400) : rsR g cu sr sw N dr di f0 (ax_F (m + 3) 133 [ax_A (some rv), ax_I (Int32.ofInt u), ax_I (Int32.ofInt t)] (dH g cu sr sw N dr di f0 q x L fs)) (rxY r t (w (u + 2 + b q / 2))) (q + 1) L fs a0 a1 := by
  have X' := X.2.2.2.2.2.2.2.2.2.2.2.1
  have nb := X'.2.2.2.2.1
  have k8 := spSy_k (c := w) (p := u + 2) 8 0
  have c : hfO b (7 + 1) q := ⟨hS.1, hS.2.1, by have := hS.2.2; omega⟩
  have VW := fun (q : Int) (x : Int64) => verX_A (dH_W (f0 := f0) (q := q) (x := x) (L := L) (fs := fs) X)
  have VR := fun (q : Int) (x : Int64) => verX_A (dH_R (f0 := f0) (q := q) (x := x) (L := L) (fs := fs) X)
  have lw := (Sa_lt (VW q x))
  have lr := (Sa_lt (VR q x))
  have u1 := lw.2.2.2 u (by omega)
  have t1 := lr.2.2.2 t (by omega)
  have sm := k8.2.2 (b q / 2).toNat (by omega) (by have := hS.2.2; omega)
  rw [show u + 2 + (((b q / 2).toNat : Nat) : Int) = u + 2 + b q / 2 by omega] at sm
  have sl := lw.2.2.2 (u + 2 + b q / 2) (by omega)
  have yb := lw.2.2.1 (u + 2 + b q / 2)
  have rg := spIx_r (c := r) (p := t + 2) (x := w (u + 2 + b q / 2)) (spSy r (t + 2) 8 0)
  have k9 := (spSy_k (c := r) (p := t + 2) 8 0).2.1
  have cb := lr.2.2.1 (t + 2 + spSy r (t + 2) 8 0 + 1)
  have sb : -1 ≤ spSd r t ∧ spSd r t < 128 := by unfold spSd; split <;> omega
  rw [Resolver_resolveSymbol_F]
  unfold Resolver_resolveSymbol_b
  rw [dH_1 X, Option.bind_some, dH_sron X, show (7 : Int32) = Int32.ofInt 7 from rfl, pl_ci (Rv_cnt X q0 (by omega) (by omega) (by omega)), if_pos c, if_pos c, if_pos c, if_neg (show ¬ Int32.ofInt 1 = 0 from by decide), dH_2 X, Option.bind_some, dH_1 X, Option.bind_some, dH_sron X, pl_cl (Rv_nu X), zl_32 (by omega) (by omega), Sa_on (VW _ _), pl_ci (Sa_sb (VW _ _) u0 (by omega) (by omega) (by omega)), atC_in (by omega) sl, dH_3 X, Option.bind_some, Sa_on (VR _ _), pl_ci (Sa_sym (VR _ _) t0 (by omega) hEt (by omega) (by omega))]
  unfold rxY
  by_cases z : spIx r (t + 2) (w (u + 2 + b q / 2)) (spSy r (t + 2) 8 0) = -1
  · rw [if_pos (show Int32.ofInt (spIx r (t + 2) (w (u + 2 + b q / 2)) (spSy r (t + 2) 8 0)) = -1 from by rw [z]; rfl), if_pos z, dH_3 X, Option.bind_some, Sa_on (VR _ _), pl_ci (Sa_sd (VR _ _) t0 ht hEt hf)]
    by_cases y : spSd r t = -1
    · rw [if_pos (show Int32.ofInt (spSd r t) = -1 from by rw [y]; rfl), if_pos y]
      exact rsR_f rfl hL (fun _ _ => rfl)
    · rw [if_neg (show ¬ Int32.ofInt (spSd r t) = -1 from by rw [show (-1 : Int32) = Int32.ofInt (-1) from rfl, zi_eq (by omega) (by omega) (by omega) (by omega)]; exact y), if_neg y, dH_4 X, Option.bind_some, dH_dron]
      exact rsR_t (rsR_a (m := m + 1) X hL)
  · rw [if_neg (show ¬ Int32.ofInt (spIx r (t + 2) (w (u + 2 + b q / 2)) (spSy r (t + 2) 8 0)) = -1 from by rw [show (-1 : Int32) = Int32.ofInt (-1) from rfl, zi_eq (by omega) (by omega) (by omega) (by omega)]; exact z), if_neg z, if_neg (show ¬ Int32.ofInt (w (u + 2 + b q / 2)) = -1 from by rw [show (-1 : Int32) = Int32.ofInt (-1) from rfl, zi_eq (by omega) (by omega) (by omega) (by omega)]; omega), dH_4 X, Option.bind_some, dH_dron]
    exact rsR_t (rsR_a (m := m + 1) X hL)
end RLX
