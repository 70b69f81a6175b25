section RHX
variable {g : ax_Hp} {rv cu sr sw sd dr di N lw lr : Nat} {w r b : Int → Int} {we wn wu re rn ru f0 : Nat → Int}
/-- the class takes the first of the reader's branches that reads -/
theorem Rv_br {K n D1 D2 : Nat} {t u dep q : Int} {x : Int64} {L : List Int} {fs : Nat → Int} (X : rvX g rv cu sr sw sd dr di N lw lr w r b we wn wu re rn ru) (R : rvC g rv cu sr sw N dr di lw lr f0 w r b we wn wu re rn ru (K + 40) n) (hn : D1 + D2 + 1 ≤ n) (d0 : 0 ≤ dep) (d1 : dep + 1 + D1 + D2 ≤ 12) (h1 : D1 ≤ 6) (h2 : D2 ≤ 6) (gt : gdT lr r re rn ru (D1 + 1) t) (ct : r t = 85) (gu : gdT lw w we wn wu D2 u) (q0 : 0 ≤ q) (q1 : q ≤ N) (hS : 0 ≤ spSc w b D2 u q) (hL : L.length ≤ 400) : rsR g cu sr sw N dr di f0 (ax_F (K + 41) 127 [ax_A (some rv), ax_I (Int32.ofInt u), ax_I (Int32.ofInt t), ax_I (Int32.ofInt dep)] (dH g cu sr sw N dr di f0 q x L fs)) (if fstI (fun y => crd r w 13 D1 D2 y u) (spPt r (D1 + 1) t) 0 = -1 then none else cat2 (some [48 + fstI (fun y => crd r w 13 D1 D2 y u) (spPt r (D1 + 1) t) 0, 58]) (rsv r w b n D1 D2 ((spPt r (D1 + 1) t).getD (fstI (fun y => crd r w 13 D1 D2 y u) (spPt r (D1 + 1) t) 0).toNat 0) u q)) (spSc w b D2 u q) L fs u (spTy w D2 u) := by
  have VW := fun (L : List Int) => verX_A (dH_W (f0 := f0) (q := q) (x := x) (L := L) (fs := fs) X)
  have VR := fun (L : List Int) => verX_A (dH_R (f0 := f0) (q := q) (x := x) (L := L) (fs := fs) X)
  obtain ⟨lr1, lr2, lr3, lr4⟩ := Sa_lt (VR L)
  obtain ⟨D', hD, n1, n2, n3, n4⟩ := gdT_U lr2 gt ct
  have hD' : D1 = D' := by omega
  subst hD'
  have F := fstI_any (fun y => crd r w 13 D1 D2 y u) (spPt r (D1 + 1) t) 0
  have C := Co_all (VR L) (VW L) 13 (K + 9)
  have E74 : ax_F (K + 39) 74 [ax_A (some sd), ax_I (Int32.ofInt t), ax_A (some sw), ax_I (Int32.ofInt u), ax_I (Int32.ofInt 0)] (dH g cu sr sw N dr di f0 q x L fs) = some (.inl (some (ax_I (Int32.ofInt (fstI (fun y => crd r w 13 D1 D2 y u) (spPt r (D1 + 1) t) 0)))), dH g cu sr sw N dr di f0 q x L fs) := by
    rw [Compatibility_readingBranch_F]
    unfold Compatibility_readingBranch_b
    rw [Sa_on (VR L), pl_ci Sc_fst]
    have B := Co_rb (M := K + 37) (n := 13) (D1 := D1) (D2 := D2) (w := u) (dep := 0) (VR L) C (by omega) (by omega) (by omega) gu (spPt r (D1 + 1) t) 0 ax_fuel (by obtain ⟨q, e⟩ := n2; rw [e]; simp) (by omega) n1 (fun y hy => ⟨(n4 y hy).1, (n4 y hy).2.1⟩) (by unfold ax_fuel; omega)
    rw [show (spPt r (D1 + 1) t).getD 0 0 = t + 2 from by obtain ⟨q, e⟩ := n2; rw [e]; rfl] at B
    exact B
  rw [Resolver_resolveAsBranch_F]
  unfold Resolver_resolveAsBranch_b
  have E128 : ax_F (K + 40) 128 [ax_A (some sd), ax_I (Int32.ofInt t), ax_A (some sw), ax_I (Int32.ofInt u)] (dH g cu sr sw N dr di f0 q x L fs) = some (.inl (some (ax_I (Int32.ofInt (fstI (fun y => crd r w 13 D1 D2 y u) (spPt r (D1 + 1) t) 0)))), dH g cu sr sw N dr di f0 q x L fs) := by
    rw [Compatibility_firstReadingBranch_F]
    unfold Compatibility_firstReadingBranch_b
    rw [show (0 : Int32) = Int32.ofInt 0 from rfl, pl_ci E74]
    rfl
  rw [dH_3 X, Option.bind_some, dH_2 X, Option.bind_some, pl_ci E128]
  by_cases z : fstI (fun y => crd r w 13 D1 D2 y u) (spPt r (D1 + 1) t) 0 = -1
  · rw [if_pos z, if_pos (show Int32.ofInt (fstI (fun y => crd r w 13 D1 D2 y u) (spPt r (D1 + 1) t) 0) = -1 from by rw [z]; rfl)]
    exact rsR_f rfl hL (fun _ _ => rfl)
  · have F2 := F.2.1
    have F3 := F.2.2
    generalize hi : fstI (fun y => crd r w 13 D1 D2 y u) (spPt r (D1 + 1) t) 0 = i at z F2 F3 ⊢
    rw [if_neg z, if_neg (show ¬ Int32.ofInt i = -1 from by rw [show (-1 : Int32) = Int32.ofInt (-1) from rfl, zi_eq (by omega) (by omega) (by omega) (by omega)]; exact z), dH_4 X, Option.bind_some, dH_dron, show (48 : Int32) = Int32.ofInt 48 from rfl, zi_add, show cat2 (some [48 + i, 58]) (rsv r w b n D1 D2 ((spPt r (D1 + 1) t).getD i.toNat 0) u q) = cat2 (some [48 + i]) (cat2 (some [58]) (rsv r w b n D1 D2 ((spPt r (D1 + 1) t).getD i.toNat 0) u q)) from by rw [← cat2_a]; rfl]
    have mem : (spPt r (D1 + 1) t).getD i.toNat 0 ∈ spPt r (D1 + 1) t := by
      rw [List.getD_eq_getElem?_getD, List.getElem?_eq_getElem (show i.toNat < (spPt r (D1 + 1) t).length by omega)]
      exact List.getElem_mem _
    refine rsR_p (m := K + 39) (y := 48 + i) X hL (fun hL1 => ?_)
    rw [dH_4 X, Option.bind_some, dH_dron]
    refine rsR_p (m := K + 39) (y := 58) X hL1 (fun hL2 => ?_)
    rw [dH_3 X, Option.bind_some, Sa_on (VR _), pl_ci (Sa_br (VR _) (by omega) (by omega) n2 n3 n1 (fun y hy => (n4 y hy).2.1)), if_pos (show 0 ≤ i ∧ i < (spPt r (D1 + 1) t).length by omega), dH_on X, show (1 : Int32) = Int32.ofInt 1 from rfl, zi_add]
    exact rsR_t (R D1 D2 _ u (dep + 1) q x _ fs hn (by omega) (by omega) h1 h2 (n4 _ mem).1 gu q0 q1 hS hL2)
/-- the class resolves as the text says -/
theorem Rv_all (X : rvX g rv cu sr sw sd dr di N lw lr w r b we wn wu re rn ru) : ∀ (n m : Nat), rvC g rv cu sr sw N dr di lw lr f0 w r b we wn wu re rn ru (m + 3 * n + 40) n
  | 0, m => fun D1 D2 t u dep q x L fs hn => absurd hn (by omega)
  | n + 1, m => fun D1 D2 t u dep q x L fs hn d0 d1 h1 h2 gt gu q0 q1 hS hL => by
    have VW := fun (q : Int) (x : Int64) (L : List Int) (fs : Nat → Int) => verX_A (dH_W (f0 := f0) (q := q) (x := x) (L := L) (fs := fs) X)
    have VR := fun (q : Int) (x : Int64) (L : List Int) (fs : Nat → Int) => verX_A (dH_R (f0 := f0) (q := q) (x := x) (L := L) (fs := fs) X)
    obtain ⟨v1, v2, v3, v4⟩ := Sa_lt (VR q x L fs)
    obtain ⟨w1, w2, w3, w4⟩ := Sa_lt (VW q x L fs)
    have R0 := Rv_all X n m
    have R1 : rvC g rv cu sr sw N dr di lw lr f0 w r b we wn wu re rn ru (m + 3 * n + 1 + 40) n := by
      have := Rv_all X n (m + 1)
      rw [show m + 1 + 3 * n + 40 = m + 3 * n + 1 + 40 by omega] at this
      exact this
    have R2 : rvC g rv cu sr sw N dr di lw lr f0 w r b we wn wu re rn ru (m + 3 * n + 42) n := by
      have := Rv_all X n (m + 2)
      rw [show m + 2 + 3 * n + 40 = m + 3 * n + 42 by omega] at this
      exact this
    have B := X.2.2.2.2.2.2.2.2.2.2.2.1.2.2.2.2.2.1
    have tc := spTy_c D1 t gt.1 gt.2.1
    have uc := spTy_c D2 u gu.1 gu.2.1
    have tl := v4 t (by rcases tc with (h | h | h | h | h) | h | ⟨-, h⟩ <;> omega)
    have ul := w4 u (by rcases uc with (h | h | h | h | h) | h | ⟨-, h⟩ <;> omega)
    have tb := v3 t
    have ub := w3 u
    rw [show m + 3 * (n + 1) + 40 = m + 3 * n + 42 + 1 by omega, Resolver_resolve_F, rsv_s]
    unfold Resolver_resolve_b
    rw [if_pos (show Int32.ofInt dep ≤ 12 from by rw [show (12 : Int32) = Int32.ofInt 12 from rfl, zi_le (by omega) (by omega) (by omega) (by omega)]; omega), dH_2 X, Option.bind_some, Sa_on (VW q x L fs), pl_ci (Sa_kind (VW q x L fs) (by have := gu.1; omega) (by omega)), atC_in gu.1 ul]
    by_cases c1 : w u = 85
    · obtain ⟨D', hD, n1, n2, n3, n4⟩ := gdT_U w2 gu c1
      subst hD
      rw [spSc_U1 c1] at hS ⊢
      by_cases c : hfO b (spPt w (D' + 1) u).length q
      · rw [if_pos c] at hS ⊢
        have lt := (bSt_b B q0).2.2.1 c.1
        have c3 := c.2.2
        have mem : (spPt w (D' + 1) u).getD (b q / 2).toNat 0 ∈ spPt w (D' + 1) u := by
          rw [List.getD_eq_getElem?_getD, List.getElem?_eq_getElem (show (b q / 2).toNat < (spPt w (D' + 1) u).length by omega)]
          exact List.getElem_mem _
        obtain ⟨-, -, p3⟩ := spPt_U w2 gu.1 gu.2.1 c1
        have p4 := p3 _ mem
        have m2 := (n4 _ mem).2.1
        rw [if_pos c1, if_pos (show Int32.ofInt (w u) = 85 from by rw [c1]; rfl), dH_1 X, Option.bind_some, dH_sron X, pl_ci (Rv_rb X n2 n3 n1 (fun y hy => (n4 y hy).2.1) q0 q1), if_pos c, if_pos c, if_pos c, if_neg (show ¬ Int32.ofInt ((spPt w (D' + 1) u).getD (b q / 2).toNat 0) = -1 from by rw [show (-1 : Int32) = Int32.ofInt (-1) from rfl, zi_eq (by omega) (by omega) (by omega) (by omega)]; omega), dH_on X, show (1 : Int32) = Int32.ofInt 1 from rfl, zi_add, show D' + 1 - 1 = D' from rfl]
        exact rsR_k (rsR_t (R2 D1 D' t _ (dep + 1) (q + 1) _ L fs (by omega) (by omega) (by omega) h1 (by omega) gt (n4 _ mem).1 (by omega) (by omega) hS hL)) (by omega) (by omega)
      · rw [if_neg c] at hS; omega
    · rw [if_neg c1, if_neg (show ¬ Int32.ofInt (w u) = 85 from by rw [show (85 : Int32) = Int32.ofInt 85 from rfl, zi_eq (by omega) (by omega) (by omega) (by omega)]; exact c1), dH_3 X, Option.bind_some, Sa_on (VR q x L fs), pl_ci (Sa_kind (VR q x L fs) (by have := gt.1; omega) (by omega)), atC_in gt.1 tl]
      by_cases c2 : r t = 85
      · obtain ⟨D', hD, -⟩ := gdT_U v2 gt c2
        subst hD
        rw [if_pos c2, if_pos (show Int32.ofInt (r t) = 85 from by rw [c2]; rfl), dH_on X, show D' + 1 - 1 = D' from rfl]
        exact rsR_z (Rv_br (K := m + 3 * n + 1) X R1 (by omega) d0 (by omega) (by omega) h2 gt c2 gu q0 q1 hS hL)
      · rw [if_neg c2, if_neg (show ¬ Int32.ofInt (r t) = 85 from by rw [show (85 : Int32) = Int32.ofInt 85 from rfl, zi_eq (by omega) (by omega) (by omega) (by omega)]; exact c2)]
        have body : (r t = w u ∨ (w u = 73 ∧ r t = 76)) → rsR g cu sr sw N dr di f0 (Resolver_resolve_jn108 (ax_F (m + 3 * n + 42)) (some rv) (Int32.ofInt u) (Int32.ofInt t) (Int32.ofInt dep) (Int32.ofInt (w u)) (dH g cu sr sw N dr di f0 q x L fs)) (if w u = 65 then cat2 (some [91]) (rxA b (spSc w b (D2 - 1) (u + 1)) (rsv r w b n (D1 - 1) (D2 - 1) (t + 1) (u + 1)) 21 20 q) else if w u = 82 then cat2 (some [123]) (rxF (fun x => if fnd w (r x) (spPt w D2 u) = -1 then rxD r (D1 - 1) x else rsv r w b n (D1 - 1) (D2 - 1) (x + 2) (fnd w (r x) (spPt w D2 u) + 2) (spAt (spSc w b (D2 - 1)) (fnd w (r x) (spPt w D2 u)) (spPt w D2 u) q)) (spPt r D1 t)) else rxP r w b t u q) (spSc w b D2 u q) L fs u (spTy w D2 u) := fun ck => by
          have ek : (Int32.ofInt (w u)).toInt = w u := zi_toInt (by omega) (by omega)
          by_cases cA : w u = 65
          · obtain ⟨Da, hDa, ga⟩ := gdT_A gt (by omega)
            obtain ⟨Db, hDb, gb⟩ := gdT_A gu cA
            subst hDa
            subst hDb
            rw [if_pos cA]
            rw [spSc_A1 cA] at hS ⊢
            rw [spTy_A cA]
            unfold Resolver_resolve_jn108
            rw [ek, if_pos cA, dH_on X, show Da + 1 - 1 = Da from rfl, show Db + 1 - 1 = Db from rfl]
            refine rsR_z ?_
            rw [show m + 3 * n + 42 = m + 3 * n + 1 + 40 + 1 by omega, Resolver_resolveElements_F]
            unfold Resolver_resolveElements_b
            rw [dH_4 X, Option.bind_some, dH_dron]
            refine rsR_p (m := m + 3 * n + 40) (y := 91) X hL (fun hL1 => ?_)
            exact Rv_arL (K := m + 3 * n + 1) X R1 (by omega) d0 (by omega) (by omega) (by omega) ga gb (by omega) (by omega) 21 0 20 q x _ fs ax_fuel (by omega) (by omega) q0 q1 hS hL1 (by unfold ax_fuel; omega)
          · rw [if_neg cA]
            by_cases cR : w u = 82
            · obtain ⟨Da, hDa, n1, n2, n3, n4⟩ := gdT_R v2 gt (by omega)
              obtain ⟨Db, hDb, p1, p2, p3, p4⟩ := gdT_R w2 gu cR
              subst hDa
              subst hDb
              rw [if_pos cR]
              rw [spSc_R1 cR] at hS ⊢
              obtain ⟨-, -, o3⟩ := spPt_R (by omega) w2 gu.1 gu.2.1 cR
              have o5 := spPt_srt (by omega) w2 gu.1 gu.2.1 cR
              have p6 : ∀ z ∈ spPt w (Db + 1) u, gdT lw w we wn wu Db (z + 2) ∧ (0 ≤ z ∧ z < lw) ∧ u ≤ z + 2 ∧ spTy w Db (z + 2) ≤ spTy w (Db + 1) u := fun z hz => by
                obtain ⟨i1, i2, i3, i4, i5, i6⟩ := o3 z hz
                have := (spFe_ge (by omega) w2 i2 i5).1
                exact ⟨(p4 z hz).1, (p4 z hz).2.1, by omega, by omega⟩
              obtain ⟨x', E⟩ := Rv_ntL (f0 := f0) (K := m + 3 * n) (D2 := Db) (t := t) (u := u) (dep := dep) (L := L) X (by omega) (spPt w (Db + 1) u) 0 q x fs ax_fuel (by omega) (fun _ => p1) (fun y hy => ⟨(p4 y hy).1, (p4 y hy).2.1⟩) q0 q1 hS (by unfold ax_fuel; omega)
              rw [show (spPt w (Db + 1) u).getD 0 (-1) = u + 2 from by obtain ⟨q, e⟩ := p2; rw [e]; rfl] at E
              have be := (spSc_b (c := w) B (Db + 1) u q q0 q1).1 (by rw [spSc_R1 cR]; exact hS)
              rw [spSc_R1 cR] at be
              rw [cR] at ek
              rw [show Int32.ofInt (w u) = Int32.ofInt 82 from by rw [cR]]
              unfold Resolver_resolve_jn108
              simp only [ek, Int.reduceEq, ↓reduceIte]
              rw [dH_on X, show Da + 1 - 1 = Da from rfl, show Db + 1 - 1 = Db from rfl]
              refine rsR_z ?_
              rw [show m + 3 * n + 42 = m + 3 * n + 41 + 1 by omega, Resolver_resolveFields_F]
              unfold Resolver_resolveFields_b
              rw [dH_2 X, Option.bind_some, Sa_on (VW q x L fs), pl_ci Sc_fst]
              rw [show Resolver_resolveFields_lp13 (ax_F (m + 3 * n + 41)) ax_fuel (some rv) (Int32.ofInt u) (Int32.ofInt t) (Int32.ofInt dep) (Int32.ofInt (u + 2)) 0 (dH g cu sr sw N dr di f0 q x L fs) = _ from E]
              unfold rvT
              rw [dH_0 X, Option.bind_some, dH_cuon X, pl_ci (Rv_at X), dH_4 X, Option.bind_some, dH_dron]
              refine rsR_fs (fs1 := nts (spSc w b Db) (spPt w (Db + 1) u) q fs) ?_ (fun i hi => nts_o _ _ _ (fun y hy => ?_))
              · refine rsR_p (m := m + 3 * n + 40) (y := 123) X hL (fun hL1 => ?_)
                rw [dH_3 X, Option.bind_some, Sa_on (VR _ _ _ _), pl_ci Sc_fst]
                have G := Rv_fdL (be := spSf (spSc w b Db) (spPt w (Db + 1) u) q) (K := m + 3 * n) (n := n) (D1 := Da) (D2 := Db) (u := u) (dep := dep) (q0 := q) (a0 := u) (a1 := spTy w (Db + 1) u) (pt := spPt w (Db + 1) u) X R0 (by omega) d0 (by omega) (by omega) (by omega) q0 q1 p2 p3 p1 p6 o5 hS (by have := (spTy_gt w2 (Db + 1) u gu.1 gu.2.1).1; omega) (spPt r (Da + 1) t) 0 (spSf (spSc w b Db) (spPt w (Db + 1) u) q) x' (L ++ [123]) (nts (spSc w b Db) (spPt w (Db + 1) u) q fs) ax_fuel (by obtain ⟨q, e⟩ := n2; rw [e]; simp) (by omega) n1 n4 (fun z hz => nts_at _ q fs o5 (fun y hy => (p4 y hy).2.1.1) z hz) hL1 (by unfold ax_fuel; omega)
                rw [show (spPt r (Da + 1) t).getD 0 0 = t + 2 from by obtain ⟨q, e⟩ := n2; rw [e]; rfl] at G
                exact G
              · have u00 := gu.1
                obtain ⟨i1, i2, i3, i4, i5, i6⟩ := o3 y hy
                have := (spFe_ge (by omega) w2 i2 i5).1
                have := (spTy_gt w2 Db (y + 2) (by omega) i2).1
                omega
            · rw [if_neg cR]
              rw [spSc_lf ⟨cA, c1, cR⟩] at hS ⊢
              refine Rv_lf (m := m + 3 * n + 39) X q0 q1 gu.1 gt.1 ?_ hS hL
              rcases uc with h | ⟨h, h'⟩ | ⟨-, h⟩
              · exact Or.inl h
              · have e1 := gdT_E gt (by omega)
                exact Or.inr ⟨h, h', by omega, e1.1, e1.2⟩
              · omega
        by_cases c3 : r t = w u
        · rw [if_pos (show Int32.ofInt (r t) = Int32.ofInt (w u) from by rw [c3]), if_pos (Or.inl c3)]
          exact body (Or.inl c3)
        · rw [if_neg (show ¬ Int32.ofInt (r t) = Int32.ofInt (w u) from by rw [zi_eq (by omega) (by omega) (by omega) (by omega)]; exact c3)]
          by_cases c4 : w u = 73
          · rw [if_pos (show Int32.ofInt (w u) = 73 from by rw [c4]; rfl)]
            by_cases c5 : r t = 76
            · rw [if_pos (show Int32.ofInt (r t) = 76 from by rw [c5]; rfl), if_pos (Or.inr ⟨c4, c5⟩)]
              exact body (Or.inr ⟨c4, c5⟩)
            · rw [if_neg (show ¬ Int32.ofInt (r t) = 76 from by rw [show (76 : Int32) = Int32.ofInt 76 from rfl, zi_eq (by omega) (by omega) (by omega) (by omega)]; exact c5), if_neg (fun z => by rcases z with z | z; exact c3 z; exact c5 z.2)]
              exact rsR_f rfl hL (fun _ _ => rfl)
          · rw [if_neg (show ¬ Int32.ofInt (w u) = 73 from by rw [show (73 : Int32) = Int32.ofInt 73 from rfl, zi_eq (by omega) (by omega) (by omega) (by omega)]; exact c4), if_neg (fun z => by rcases z with z | z; exact c3 z; exact c4 z.1)]
            exact rsR_f rfl hL (fun _ _ => rfl)
end RHX
