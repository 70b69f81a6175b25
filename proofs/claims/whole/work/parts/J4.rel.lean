theorem cat2_a (a b c : Option (List Int)) : cat2 (cat2 a b) c = cat2 a (cat2 b c) := by
  cases a with
  | none => rfl
  | some x =>
    cases b with
    | none => rfl
    | some y =>
      cases c with
      | none => rfl
      | some z => exact congrArg some (List.append_assoc x y z)
theorem cat2_n (o : Option (List Int)) : cat2 (some []) o = o := by
  cases o with
  | none => rfl
  | some y => rfl
theorem cat2_e (o : Option (List Int)) : cat2 o (some []) = o := by
  cases o with
  | none => rfl
  | some y => exact congrArg some (List.append_nil y)
/-- what resolve answers, for n steps -/
def rvC (g : ax_Hp) (rv cu sr sw N dr di lw lr : Nat) (f0 : Nat → Int) (w r b : Int → Int) (we wn wu re rn ru : Nat → Int) (M n : Nat) : Prop := ∀ (D1 D2 : Nat) (t u dep q : Int) (x : Int64) (L : List Int) (fs : Nat → Int), D1 + D2 + 1 ≤ n → 0 ≤ dep → dep + D1 + D2 ≤ 12 → D1 ≤ 6 → D2 ≤ 6 → gdT lr r re rn ru D1 t → gdT lw w we wn wu D2 u → 0 ≤ q → q ≤ N → 0 ≤ spSc w b D2 u q → L.length ≤ 400 → rsR g cu sr sw N dr di f0 (ax_F M 126 [ax_A (some rv), ax_I (Int32.ofInt u), ax_I (Int32.ofInt t), ax_I (Int32.ofInt dep)] (dH g cu sr sw N dr di f0 q x L fs)) (rsv r w b n D1 D2 t u q) (spSc w b D2 u q) L fs u (spTy w D2 u)
section REX
variable {g : ax_Hp} {rv cu sr sw sd dr di N lw lr : Nat} {w r b : Int → Int} {we wn wu re rn ru f0 : Nat → Int}
/-- a part that keeps more, and then the rest -/
theorem rsR_w {K : ax_Hp → ax_O} {R : ax_O} {o1 o2 : Option (List Int)} {e e1 : Int} {L : List Int} {fs : Nat → Int} {a0 a1 c0 c1 : Int} (h : rsR g cu sr sw N dr di f0 R o1 e1 L fs c0 c1) (ha : a0 ≤ c0) (hb : c1 ≤ a1) (h2 : ∀ (x' : Int64) (k : List Int) (fs' : Nat → Int), o1 = some k → (L ++ k).length ≤ 400 → (∀ i : Nat, (i : Int) < c0 ∨ c1 ≤ i → fs' i = fs i) → rsR g cu sr sw N dr di f0 (K (dH g cu sr sw N dr di f0 e1 x' (L ++ k) fs')) o2 e (L ++ k) fs' a0 a1) : rsR g cu sr sw N dr di f0 (ax_ci R (fun v h => if v = 0 then ax_rz 0 h else K h)) (cat2 o1 o2) e L fs a0 a1 := by
  obtain ⟨q', x', L', fs', e0, e2, e3, e4⟩ := h
  rw [pl_ci e0]
  cases c : okL o1 L with
  | false =>
    rw [if_pos (show Int32.ofInt (bI false) = 0 from rfl)]
    exact rsR_f (okL_cf c) e2 (fun i hi => e4 i (by omega))
  | true =>
    rw [if_neg (show ¬ Int32.ofInt (bI true) = 0 from by decide)]
    obtain ⟨⟨k, k1, k2⟩, k3⟩ := e3 c
    rw [k2] at e2
    rw [k1, k2, k3]
    exact rsR_c (h2 x' k fs' k1 e2 e4) (fun i hi => e4 i (by omega))
theorem Rv_elL {K n D1 D2 p : Nat} {t u dep e a0 a1 : Int} {o : Option (List Int)} {k21 : Option Nat → Int32 → Int32 → Int32 → Int32 → Int32 → ax_Hp → ax_O} (X : rvX g rv cu sr sw sd dr di N lw lr w r b we wn wu re rn ru) (R : rvC g rv cu sr sw N dr di lw lr f0 w r b we wn wu re rn ru (K + 40) n) (hn : D1 + D2 + 1 ≤ n) (d0 : 0 ≤ dep) (d1 : dep + 1 + D1 + D2 ≤ 12) (h1 : D1 ≤ 6) (h2 : D2 ≤ 6) (gt : gdT lr r re rn ru D1 (t + 1)) (gu : gdT lw w we wn wu D2 (u + 1)) (ha : a0 ≤ u + 1) (hb : spTy w D2 (u + 1) ≤ a1) (cn : Nat) (hcn : cn ≤ 20) : ∀ (k i left : Nat) (q : Int) (x : Int64) (L : List Int) (fs : Nat → Int) (fuel : Nat), i + k = cn → k ≤ left → left ≤ 20 → 0 ≤ q → q ≤ N → 0 ≤ seE (spSc w b D2 (u + 1)) k q → L.length ≤ 400 → k < fuel → (∀ (x' : Int64) (L' : List Int) (fs' : Nat → Int), L'.length ≤ 400 → rsR g cu sr sw N dr di f0 (k21 (some rv) (Int32.ofInt u) (Int32.ofInt t) (Int32.ofInt dep) (Int32.ofInt ((left - k : Nat) : Int)) (Int32.ofInt p + 1) (dH g cu sr sw N dr di f0 (seE (spSc w b D2 (u + 1)) k q) x' L' fs')) o e L' fs' a0 a1) → rsR g cu sr sw N dr di f0 (Resolver_resolveElements_lp70 (ax_F (K + 40)) k21 fuel (some rv) (Int32.ofInt u) (Int32.ofInt t) (Int32.ofInt dep) (Int32.ofInt left) (Int32.ofInt p) (Int32.ofInt cn) (Int32.ofInt i) (dH g cu sr sw N dr di f0 q x L fs)) (cat2 (rxE (spSc w b D2 (u + 1)) (rsv r w b n D1 D2 (t + 1) (u + 1)) k (decide (left = 20)) q) o) e L fs a0 a1
  | 0, i, left, q, x, L, fs, fuel, hi, hk, hl, q0, q1, hS, hL, hf, hK => by
    obtain ⟨fuel, rfl⟩ : ∃ g, fuel = g + 1 := ⟨fuel - 1, by omega⟩
    have hstep : Resolver_resolveElements_lp70 (ax_F (K + 40)) k21 (fuel + 1) = Resolver_resolveElements_bd70 (ax_F (K + 40)) k21 (Resolver_resolveElements_lp70 (ax_F (K + 40)) k21 fuel) := rfl
    rw [hstep]
    unfold Resolver_resolveElements_bd70
    rw [if_pos (show Int32.ofInt cn ≤ Int32.ofInt i from by rw [zi_le (by omega) (by omega) (by omega) (by omega)]; omega)]
    show rsR _ _ _ _ _ _ _ _ _ (cat2 (some []) o) _ _ _ _ _
    rw [cat2_n]
    exact hK x L fs hL
  | k + 1, i, left, q, x, L, fs, fuel, hi, hk, hl, q0, q1, hS, hL, hf, hK => by
    obtain ⟨fuel, rfl⟩ : ∃ g, fuel = g + 1 := ⟨fuel - 1, by omega⟩
    have hstep : Resolver_resolveElements_lp70 (ax_F (K + 40)) k21 (fuel + 1) = Resolver_resolveElements_bd70 (ax_F (K + 40)) k21 (Resolver_resolveElements_lp70 (ax_F (K + 40)) k21 fuel) := rfl
    have B := X.2.2.2.2.2.2.2.2.2.2.2.1.2.2.2.2.2.1
    have es : seE (spSc w b D2 (u + 1)) (k + 1) q = if spSc w b D2 (u + 1) q < 0 then spSc w b D2 (u + 1) q else seE (spSc w b D2 (u + 1)) k (spSc w b D2 (u + 1) q) := rfl
    have ex : rxE (spSc w b D2 (u + 1)) (rsv r w b n D1 D2 (t + 1) (u + 1)) (k + 1) (decide (left = 20)) q = cat2 (some (if decide (left = 20) then [] else [44])) (cat2 (rsv r w b n D1 D2 (t + 1) (u + 1) q) (rxE (spSc w b D2 (u + 1)) (rsv r w b n D1 D2 (t + 1) (u + 1)) k false (spSc w b D2 (u + 1) q))) := rfl
    by_cases c0 : spSc w b D2 (u + 1) q < 0
    · rw [es, if_pos c0] at hS; omega
    · rw [es, if_neg c0] at hS
      have bd := (spSc_b (c := w) B D2 (u + 1) q q0 q1).1 (by omega)
      have rest : ∀ (L : List Int), L.length ≤ 400 → rsR g cu sr sw N dr di f0 ((ax_gr (dH g cu sr sw N dr di f0 q x L fs) (some rv) 1 2).bind fun v10 => ax_on (dH g cu sr sw N dr di f0 q x L fs) v10 3 <| ax_ci (ax_F (K + 40) 57 [ax_A v10, ax_I (Int32.ofInt u)] (dH g cu sr sw N dr di f0 q x L fs)) fun v12 h11 => (ax_gr h11 (some rv) 1 3).bind fun v13 => ax_on h11 v13 3 <| ax_ci (ax_F (K + 40) 57 [ax_A v13, ax_I (Int32.ofInt t)] h11) fun v15 h14 => ax_on h14 (some rv) 1 <| ax_ci (ax_F (K + 40) 126 [ax_A (some rv), ax_I v12, ax_I v15, ax_I (Int32.ofInt dep + 1)] h14) fun v17 h16 => if v17 = 0 then ax_rz 0 h16 else Resolver_resolveElements_lp70 (ax_F (K + 40)) k21 fuel (some rv) (Int32.ofInt u) (Int32.ofInt t) (Int32.ofInt dep) (Int32.ofInt left + -1) (Int32.ofInt p) (Int32.ofInt cn) (Int32.ofInt i + 1) h16) (cat2 (rsv r w b n D1 D2 (t + 1) (u + 1) q) (cat2 (rxE (spSc w b D2 (u + 1)) (rsv r w b n D1 D2 (t + 1) (u + 1)) k false (spSc w b D2 (u + 1) q)) o)) e L fs a0 a1 := fun L hL => by
        have VW := verX_A (dH_W (f0 := f0) (q := q) (x := x) (L := L) (fs := fs) X)
        have VR := verX_A (dH_R (f0 := f0) (q := q) (x := x) (L := L) (fs := fs) X)
        rw [dH_2 X, Option.bind_some, Sa_on VW, pl_ci Sc_el, dH_3 X, Option.bind_some, Sa_on VR, pl_ci Sc_el, dH_on X, show (1 : Int32) = Int32.ofInt 1 from rfl, zi_add]
        refine rsR_w (R D1 D2 (t + 1) (u + 1) (dep + 1) q x L fs hn (by omega) (by omega) h1 h2 gt gu q0 q1 (by omega) hL) ha hb (fun x' k' fs' hk' hL' hf' => ?_)
        rw [zi_neg, zi_add, zi_add, show (left : Int) + -1 = ((left - 1 : Nat) : Int) by omega, show (i : Int) + 1 = ((i + 1 : Nat) : Int) by omega]
        have ih := Rv_elL (p := p) (e := e) (o := o) (k21 := k21) X R hn d0 d1 h1 h2 gt gu ha hb cn hcn k (i + 1) (left - 1) (spSc w b D2 (u + 1) q) x' (L ++ k') fs' fuel (by omega) (by omega) (by omega) (by omega) (by omega) hS hL' (by omega) (fun x1 L1 fs1 hL1 => by
          have := hK x1 L1 fs1 hL1
          rw [es, if_neg c0, show left - (k + 1) = left - 1 - k by omega] at this
          exact this)
        rw [show decide (left - 1 = 20) = false from decide_eq_false (by omega)] at ih
        exact ih
      rw [hstep, ex, cat2_a, cat2_a]
      unfold Resolver_resolveElements_bd70
      rw [if_neg (show ¬ Int32.ofInt cn ≤ Int32.ofInt i from by rw [zi_le (by omega) (by omega) (by omega) (by omega)]; omega)]
      by_cases c2 : left = 20
      · rw [if_pos (show (20 : Int32) ≤ Int32.ofInt left from by rw [show (20 : Int32) = Int32.ofInt 20 from rfl, zi_le (by omega) (by omega) (by omega) (by omega)]; omega), decide_eq_true c2, if_pos rfl, cat2_n]
        exact rest L hL
      · rw [if_neg (show ¬ (20 : Int32) ≤ Int32.ofInt left from by rw [show (20 : Int32) = Int32.ofInt 20 from rfl, zi_le (by omega) (by omega) (by omega) (by omega)]; omega), decide_eq_false c2, if_neg (by decide), dH_4 X, Option.bind_some, dH_dron]
        exact rsR_p (m := K + 39) (y := 44) X hL (fun hL' => rest _ hL')
theorem Rv_arL {K n D1 D2 : Nat} {t u dep a0 a1 : Int} (X : rvX g rv cu sr sw sd dr di N lw lr w r b we wn wu re rn ru) (R : rvC g rv cu sr sw N dr di lw lr f0 w r b we wn wu re rn ru (K + 40) n) (hn : D1 + D2 + 1 ≤ n) (d0 : 0 ≤ dep) (d1 : dep + 1 + D1 + D2 ≤ 12) (h1 : D1 ≤ 6) (h2 : D2 ≤ 6) (gt : gdT lr r re rn ru D1 (t + 1)) (gu : gdT lw w we wn wu D2 (u + 1)) (ha : a0 ≤ u + 1) (hb : spTy w D2 (u + 1) ≤ a1) : ∀ (p part left : Nat) (q : Int) (x : Int64) (L : List Int) (fs : Nat → Int) (fuel : Nat), part + p = 21 → left ≤ 20 → 0 ≤ q → q ≤ N → 0 ≤ spSa b (spSc w b D2 (u + 1)) p left q → L.length ≤ 400 → p < fuel → rsR g cu sr sw N dr di f0 (Resolver_resolveElements_lp21 (ax_F (K + 40)) fuel (some rv) (Int32.ofInt u) (Int32.ofInt t) (Int32.ofInt dep) (Int32.ofInt left) (Int32.ofInt part) (dH g cu sr sw N dr di f0 q x L fs)) (rxA b (spSc w b D2 (u + 1)) (rsv r w b n D1 D2 (t + 1) (u + 1)) p left q) (spSa b (spSc w b D2 (u + 1)) p left q) L fs a0 a1
  | 0, part, left, q, x, L, fs, fuel, hp, hl, q0, q1, hS, hL, hf => absurd (show 0 ≤ -1 - q from hS) (by omega)
  | p + 1, part, left, q, x, L, fs, fuel, hp, hl, q0, q1, hS, hL, hf => by
    obtain ⟨fuel, rfl⟩ : ∃ g, fuel = g + 1 := ⟨fuel - 1, by omega⟩
    have hstep : Resolver_resolveElements_lp21 (ax_F (K + 40)) (fuel + 1) = Resolver_resolveElements_bd21 (ax_F (K + 40)) (Resolver_resolveElements_lp21 (ax_F (K + 40)) fuel) := rfl
    have X' := X.2.2.2.2.2.2.2.2.2.2.2.1
    have nb := X'.2.2.2.2.1
    have B := X'.2.2.2.2.2.1
    have es : spSa b (spSc w b D2 (u + 1)) (p + 1) left q = if hfO b (left + 1) q then (if b q = 0 then q + 1 else if seE (spSc w b D2 (u + 1)) (b q / 2).toNat (q + 1) < 0 then seE (spSc w b D2 (u + 1)) (b q / 2).toNat (q + 1) else spSa b (spSc w b D2 (u + 1)) p (left - (b q / 2).toNat) (seE (spSc w b D2 (u + 1)) (b q / 2).toNat (q + 1))) else -1 - q := rfl
    have ex : rxA b (spSc w b D2 (u + 1)) (rsv r w b n D1 D2 (t + 1) (u + 1)) (p + 1) left q = if b q = 0 then some [93] else cat2 (rxE (spSc w b D2 (u + 1)) (rsv r w b n D1 D2 (t + 1) (u + 1)) (b q / 2).toNat (decide (left = 20)) (q + 1)) (rxA b (spSc w b D2 (u + 1)) (rsv r w b n D1 D2 (t + 1) (u + 1)) p (left - (b q / 2).toNat) (seE (spSc w b D2 (u + 1)) (b q / 2).toNat (q + 1))) := rfl
    by_cases c : hfO b (left + 1) q
    · rw [es, if_pos c] at hS ⊢
      have lt := (bSt_b B q0).2.2.1 c.1
      have c3 := c.2.2
      rw [hstep, ex]
      unfold Resolver_resolveElements_bd21
      rw [if_neg (show ¬ (20 : Int32) < Int32.ofInt part from by rw [show (20 : Int32) = Int32.ofInt 20 from rfl, zi_lt (by omega) (by omega) (by omega) (by omega)]; omega), dH_1 X, Option.bind_some, dH_sron X, pl_ci (Rv_cnt X q0 (by omega) (by omega) (by omega)), if_pos c, if_pos c, if_pos c, if_neg (show ¬ Int32.ofInt 1 = 0 from by decide), dH_1 X, Option.bind_some, dH_sron X, pl_cl (Rv_nu X), zl_32 (by omega) (by omega)]
      by_cases c1 : b q = 0
      · rw [if_pos c1] at hS ⊢
        rw [if_pos c1, if_pos (show Int32.ofInt (b q / 2) = 0 from by rw [c1]; rfl), dH_4 X, Option.bind_some, dH_dron]
        exact rsR_z (rsR_a (m := K + 39) (y := 93) X hL)
      · rw [if_neg c1] at hS ⊢
        rw [if_neg c1, if_neg (show ¬ Int32.ofInt (b q / 2) = 0 from by rw [show (0 : Int32) = Int32.ofInt 0 from rfl, zi_eq (by omega) (by omega) (by omega) (by omega)]; have := c.2.1; omega)]
        by_cases c2 : seE (spSc w b D2 (u + 1)) (b q / 2).toNat (q + 1) < 0
        · rw [if_pos c2] at hS; omega
        · rw [if_neg c2] at hS ⊢
          have sb : seE (spSc w b D2 (u + 1)) (b q / 2).toNat (q + 1) ≤ N := ((seE_b (f := spSc w b D2 (u + 1)) (fun z z0 z1 => spSc_b (c := w) B D2 (u + 1) z z0 z1) (b q / 2).toNat (q + 1) (by omega) (by omega)).1 (by omega)).2
          have E := Rv_elL (p := part) (k21 := Resolver_resolveElements_lp21 (ax_F (K + 40)) fuel) (e := spSa b (spSc w b D2 (u + 1)) p (left - (b q / 2).toNat) (seE (spSc w b D2 (u + 1)) (b q / 2).toNat (q + 1))) (o := rxA b (spSc w b D2 (u + 1)) (rsv r w b n D1 D2 (t + 1) (u + 1)) p (left - (b q / 2).toNat) (seE (spSc w b D2 (u + 1)) (b q / 2).toNat (q + 1))) (a0 := a0) (a1 := a1) X R hn d0 d1 h1 h2 gt gu ha hb (b q / 2).toNat (by omega) (b q / 2).toNat 0 left (q + 1) (Int64.ofInt (b q / 2)) L fs ax_fuel (by omega) (by omega) hl (by omega) (by omega) (by omega) hL (by unfold ax_fuel; omega) (fun x' L' fs' hL' => by
            rw [show (1 : Int32) = Int32.ofInt 1 from rfl, zi_add, show (part : Int) + 1 = ((part + 1 : Nat) : Int) by omega]
            exact Rv_arL X R hn d0 d1 h1 h2 gt gu ha hb p (part + 1) (left - (b q / 2).toNat) _ x' L' fs' fuel (by omega) (by omega) (by omega) sb hS hL' (by omega))
          rw [show (((b q / 2).toNat : Nat) : Int) = b q / 2 by omega] at E
          exact E
    · rw [es, if_neg c] at hS; omega
end REX
