theorem fnd_in {c : Int → Int} {y : Int} : ∀ l : List Int, fnd c y l = -1 ∨ (fnd c y l ∈ l ∧ c (fnd c y l) = y)
  | [] => Or.inl rfl
  | x :: l => by
    have e : fnd c y (x :: l) = if c x = y then x else fnd c y l := rfl
    rw [e]
    by_cases h : c x = y
    · rw [if_pos h]; exact Or.inr ⟨List.mem_cons_self, h⟩
    · rw [if_neg h]
      exact (fnd_in l).imp id (fun z => ⟨List.mem_cons_of_mem _ z.1, z.2⟩)
theorem Co_fl {M : Nat} {h : ax_Hp} {sr sw l k : Nat} {c d : Int → Int} {fe fn fu ge gn gu : Nat → Int} {n D1 D2 : Nat} {w dep : Int} {gl : List Int} (V : schA h sr l c fe fn fu) (W : schA h sw k d ge gn gu) (R : rdC h sr sw l k c d fe fn fu ge gn gu (M + 2) n) (hn : D1 + D2 + 1 ≤ n) (d0 : 0 ≤ dep) (d1 : dep + 1 + D1 + D2 ≤ 12) (w0 : 0 ≤ w) (gl1 : ∃ k, gl = (w + 2) :: k) (gl2 : gl.length ≤ 6) (gl3 : nxC gn gl) (gl4 : ∀ y ∈ gl, gdT k d ge gn gu D2 (y + 2) ∧ (0 ≤ y ∧ y < k)) : ∀ (fl : List Int) (i : Nat) (fuel : Nat), fl ≠ [] → i + fl.length ≤ 6 → nxC fn fl → (∀ y ∈ fl, gdT l c fe fn fu D1 (y + 2) ∧ (0 ≤ y ∧ y < l)) → fl.length < fuel → Compatibility_canReadFields_lp10 (ax_F (M + 2)) fuel (some sr) (some sw) (Int32.ofInt w) (Int32.ofInt dep) (Int32.ofInt (fl.getD 0 0)) (Int32.ofInt i) h = some (.inl (some (ax_I (Int32.ofInt (bI (fl.all (fun f => if fnd d (c f) gl = -1 then decide (spGv c D1 f ≠ -1) else crd c d n D1 D2 (f + 2) (fnd d (c f) gl + 2))))))), h) := by
  obtain ⟨g1, g2, g3, g4⟩ := Sa_lt V
  have kk := (Sa_lt W).1
  intro fl
  induction fl with
  | nil => intro i fuel z; exact absurd rfl z
  | cons y fl ih =>
    intro i fuel _ hi hnx hy hf
    obtain ⟨fuel, rfl⟩ : ∃ g, fuel = g + 1 := ⟨fuel - 1, by omega⟩
    have hstep : Compatibility_canReadFields_lp10 (ax_F (M + 2)) (fuel + 1) = Compatibility_canReadFields_bd10 (ax_F (M + 2)) (Compatibility_canReadFields_lp10 (ax_F (M + 2)) fuel) := rfl
    rw [List.length_cons] at hi hf
    obtain ⟨yg, y0⟩ := hy y List.mem_cons_self
    have cb := g3 y
    have hg : (y :: fl).getD 0 0 = y := rfl
    have nx1 := Sa_next (m := M + 1) V y0.1 y0.2
    have fb := fnd_in (c := d) (y := c y) gl
    have tg := spTy_gt g2 D1 (y + 2) (by omega) yg.2.1
    have gvb : -1 ≤ spGv c D1 y ∧ spGv c D1 y ≤ 1000 := by
      have := yg.2.1
      unfold spGv; split <;> omega
    -- behind a field that is filled
    have nxt : ∀ b : Bool, b = true → ax_on h (some sr) 3 (ax_ci (ax_F (M + 2) 63 [ax_A (some sr), ax_I (Int32.ofInt y)] h) fun v18 h17 => Compatibility_canReadFields_lp10 (ax_F (M + 2)) fuel (some sr) (some sw) (Int32.ofInt w) (Int32.ofInt dep) v18 (Int32.ofInt i + 1) h17) = some (.inl (some (ax_I (Int32.ofInt (bI (b && fl.all (fun f => if fnd d (c f) gl = -1 then decide (spGv c D1 f ≠ -1) else crd c d n D1 D2 (f + 2) (fnd d (c f) gl + 2))))))), h) := by
      intro b hb
      rw [hb, Bool.true_and, Sa_on V, pl_ci nx1, show (1 : Int32) = Int32.ofInt 1 from rfl, zi_add]
      cases fl with
      | nil =>
        have hn1 : fn y.toNat = -1 := hnx
        obtain ⟨fuel, rfl⟩ : ∃ g, fuel = g + 1 := ⟨fuel - 1, by omega⟩
        have hstep : Compatibility_canReadFields_lp10 (ax_F (M + 2)) (fuel + 1) = Compatibility_canReadFields_bd10 (ax_F (M + 2)) (Compatibility_canReadFields_lp10 (ax_F (M + 2)) fuel) := rfl
        rw [hn1, hstep]
        unfold Compatibility_canReadFields_bd10
        by_cases c4 : (6 : Int32) ≤ Int32.ofInt (i + 1)
        · rw [if_pos c4]; exact za_rz (v := 1) (Or.inr rfl)
        · rw [if_neg c4, if_pos (show Int32.ofInt (-1) = -1 from rfl)]; exact za_rz (v := 1) (Or.inr rfl)
      | cons z fl =>
        have hn1 : fn y.toNat = z := hnx.1
        rw [hn1]
        have := ih (i + 1) fuel (by simp) (by omega) hnx.2 (fun w hw => hy w (List.mem_cons_of_mem _ hw)) (by omega)
        rw [show (z :: fl).getD 0 0 = z from rfl] at this
        rw [show (i : Int) + 1 = ((i + 1 : Nat) : Int) by omega, this]
    rw [hstep, hg, List.all_cons]
    unfold Compatibility_canReadFields_bd10
    rw [if_neg (show ¬ (6 : Int32) ≤ Int32.ofInt i from by rw [show (6 : Int32) = Int32.ofInt 6 from rfl, zi_le (by omega) (by omega) (by omega) (by omega)]; omega), if_neg (show ¬ Int32.ofInt y = -1 from by rw [show (-1 : Int32) = Int32.ofInt (-1) from rfl, zi_eq (by omega) (by omega) (by omega) (by omega)]; omega), Sa_on V, pl_ci (Sa_at V (by omega) (by omega)), atC_in y0.1 y0.2, Sa_on W, pl_ci (Sa_fn W (by omega) (by omega) gl1 gl2 gl3 (fun y hy => (gl4 y hy).2))]
    by_cases z : fnd d (c y) gl = -1
    · rw [if_pos z, if_pos (show Int32.ofInt (fnd d (c y) gl) = -1 from by rw [z]; rfl), Sa_on V, pl_ci (Sa_fd (D := D1) V y0.1 yg.2.1 yg.2.2.1)]
      by_cases v : spGv c D1 y = -1
      · rw [if_pos (show Int32.ofInt (spGv c D1 y) = -1 from by rw [v]; rfl), decide_eq_false (fun q => q v), Bool.false_and]
        exact za_rz (v := 0) (Or.inl rfl)
      · rw [if_neg (show ¬ Int32.ofInt (spGv c D1 y) = -1 from by rw [show (-1 : Int32) = Int32.ofInt (-1) from rfl, zi_eq (by omega) (by omega) (by omega) (by omega)]; exact v)]
        exact nxt _ (decide_eq_true v)
    · obtain ⟨fm, fe'⟩ := fb.resolve_left z
      obtain ⟨gg, gy⟩ := gl4 _ fm
      rw [if_neg z, if_neg (show ¬ Int32.ofInt (fnd d (c y) gl) = -1 from by rw [show (-1 : Int32) = Int32.ofInt (-1) from rfl, zi_eq (by omega) (by omega) (by omega) (by omega)]; exact z), Sa_on V, pl_ci Sc_fty, Sa_on W, pl_ci Sc_fty]
      have rr := R D1 D2 (y + 2) (fnd d (c y) gl + 2) (dep + 1) hn (by omega) (by omega) yg gg
      rw [show Int32.ofInt dep + 1 = Int32.ofInt (dep + 1) from by rw [show (1 : Int32) = Int32.ofInt 1 from rfl, zi_add], pl_ci rr]
      by_cases v : crd c d n D1 D2 (y + 2) (fnd d (c y) gl + 2) = true
      · rw [v, if_neg (show ¬ Int32.ofInt (bI true) = 0 from by decide)]
        exact nxt _ rfl
      · rw [Bool.not_eq_true] at v
        rw [v, if_pos (show Int32.ofInt (bI false) = 0 from rfl), Bool.false_and]
        exact za_rz (v := 0) (Or.inl rfl)
/-- the class answers as the text says, whether one schema reads the other -/
theorem Co_all {h : ax_Hp} {sr sw l k : Nat} {c d : Int → Int} {fe fn fu ge gn gu : Nat → Int} (V : schA h sr l c fe fn fu) (W : schA h sw k d ge gn gu) : ∀ (n m : Nat), rdC h sr sw l k c d fe fn fu ge gn gu (m + 2 * n + 3) n
  | 0, m => fun D1 D2 r w dep hn => absurd hn (by omega)
  | n + 1, m => fun D1 D2 r w dep hn d0 d1 gr gw => by
    obtain ⟨v1, v2, v3, v4⟩ := Sa_lt V
    obtain ⟨w1, w2, w3, w4⟩ := Sa_lt W
    have R := Co_all V W n m
    have rc := spTy_c D1 r gr.1 gr.2.1
    have wc := spTy_c D2 w gw.1 gw.2.1
    have rl := v4 r (by omega)
    have wl := w4 w (by omega)
    have rb := v3 r
    have wb := w3 w
    rw [show m + 2 * (n + 1) + 3 = m + 2 * n + 4 + 1 by omega, Compatibility_canReadType_F]
    unfold Compatibility_canReadType_b
    rw [if_pos (show Int32.ofInt dep ≤ 12 from by rw [show (12 : Int32) = Int32.ofInt 12 from rfl, zi_le (by omega) (by omega) (by omega) (by omega)]; omega), Sa_on W, pl_ci (Sa_kind W (by have := gw.1; omega) (by omega)), atC_in gw.1 wl, crd_s]
    by_cases c1 : d w = 85
    · obtain ⟨D', hD, n1, n2, n3, n4⟩ := gdT_U w2 gw c1
      rw [if_pos c1, if_pos (show Int32.ofInt (d w) = 85 from by rw [c1]; rfl), Compatibility_canReadBranches_F]
      unfold Compatibility_canReadBranches_b
      rw [Sa_on W, pl_ci Sc_fst]
      have B := Co_bl (M := m + 2 * n + 2) (n := n) (D1 := D1) (D2 := D') (r := r) (dep := dep) W (by rw [show m + 2 * n + 2 + 1 = m + 2 * n + 3 by omega]; exact R) (by omega) d0 (by omega) gr (spPt d D2 w) 0 ax_fuel (by obtain ⟨q, e⟩ := n2; rw [e]; simp) (by omega) n1 (fun y hy => ⟨(n4 y hy).1, (n4 y hy).2.1⟩) (by unfold ax_fuel; omega)
      rw [show (spPt d D2 w).getD 0 0 = w + 2 from by obtain ⟨q, e⟩ := n2; rw [e]; rfl] at B
      rw [show D2 - 1 = D' by omega]
      refine (pl_ci B).trans ?_
      exact za_rz (bI_01 _)
    · rw [if_neg c1, if_neg (show ¬ Int32.ofInt (d w) = 85 from by rw [show (85 : Int32) = Int32.ofInt 85 from rfl, zi_eq (by omega) (by omega) (by omega) (by omega)]; exact c1), Sa_on V, pl_ci (Sa_kind V (by have := gr.1; omega) (by omega)), atC_in gr.1 rl]
      by_cases c2 : c r = 85
      · obtain ⟨D', hD, n1, n2, n3, n4⟩ := gdT_U v2 gr c2
        rw [if_pos c2, if_pos (show Int32.ofInt (c r) = 85 from by rw [c2]; rfl), Compatibility_readingBranch_F]
        unfold Compatibility_readingBranch_b
        rw [Sa_on V, pl_ci Sc_fst]
        have B := Co_rb (M := m + 2 * n + 2) (n := n) (D1 := D') (D2 := D2) (w := w) (dep := dep) V (by rw [show m + 2 * n + 2 + 1 = m + 2 * n + 3 by omega]; exact R) (by omega) d0 (by omega) gw (spPt c D1 r) 0 ax_fuel (by obtain ⟨q, e⟩ := n2; rw [e]; simp) (by omega) n1 (fun y hy => ⟨(n4 y hy).1, (n4 y hy).2.1⟩) (by unfold ax_fuel; omega)
        rw [show (spPt c D1 r).getD 0 0 = r + 2 from by obtain ⟨q, e⟩ := n2; rw [e]; rfl] at B
        have F := fstI_any (fun b => crd c d n D' D2 b w) (spPt c D1 r) 0
        rw [show D1 - 1 = D' by omega]
        refine (pl_ci B).trans ?_
        by_cases z : fstI (fun b => crd c d n D' D2 b w) (spPt c D1 r) 0 = -1
        · rw [if_pos (show Int32.ofInt (fstI (fun b => crd c d n D' D2 b w) (spPt c D1 r) 0) = -1 from by rw [z]; rfl), F.1.mp z]
          exact za_rz (v := 0) (Or.inl rfl)
        · have zt : (spPt c D1 r).any (fun b => crd c d n D' D2 b w) = true := by
            cases q : (spPt c D1 r).any (fun b => crd c d n D' D2 b w) with
            | true => rfl
            | false => exact absurd (F.1.mpr q) z
          rw [if_neg (show ¬ Int32.ofInt (fstI (fun b => crd c d n D' D2 b w) (spPt c D1 r) 0) = -1 from by rw [show (-1 : Int32) = Int32.ofInt (-1) from rfl, zi_eq (by omega) (by omega) (by omega) (by omega)]; exact z), zt]
          exact za_rz (v := 1) (Or.inr rfl)
      · rw [if_neg c2, if_neg (show ¬ Int32.ofInt (c r) = 85 from by rw [show (85 : Int32) = Int32.ofInt 85 from rfl, zi_eq (by omega) (by omega) (by omega) (by omega)]; exact c2)]
        have ek : (Int32.ofInt (d w)).toInt = d w := zi_toInt (by omega) (by omega)
        by_cases c3 : c r = d w
        · rw [if_pos c3, if_pos (show Int32.ofInt (c r) = Int32.ofInt (d w) from by rw [c3]), ek]
          by_cases cA : d w = 65
          · rw [if_pos cA, if_pos cA]
            obtain ⟨Da, hDa, ga⟩ := gdT_A gr (by omega)
            obtain ⟨Db, hDb, gb⟩ := gdT_A gw cA
            rw [Sa_on V, pl_ci Sc_el, Sa_on W, pl_ci Sc_el, show (1 : Int32) = Int32.ofInt 1 from rfl, zi_add, show D1 - 1 = Da by omega, show D2 - 1 = Db by omega]
            have R1 := Co_all V W n (m + 1)
            have := R1 Da Db (r + 1) (w + 1) (dep + 1) (by omega) (by omega) (by omega) ga gb
            rw [show m + 1 + 2 * n + 3 = m + 2 * n + 4 by omega] at this
            rw [pl_ci this]
            exact za_rz (bI_01 _)
          · rw [if_neg cA, if_neg cA]
            by_cases cE : d w = 69
            · rw [if_pos cE, if_pos cE]
              obtain ⟨e1, e2⟩ := gdT_E gr (by omega)
              obtain ⟨e3, e4⟩ := gdT_E gw cE
              rw [pl_ci (Co_sy (M := m + 2 * n + 1) V W gr.1 gw.1 (by omega) cE e1 e3 e2)]
              exact za_rz (bI_01 _)
            · rw [if_neg cE, if_neg cE]
              by_cases cR : d w = 82
              · rw [if_pos cR, if_pos cR]
                obtain ⟨Da, hDa, n1, n2, n3, n4⟩ := gdT_R v2 gr (by omega)
                obtain ⟨Db, hDb, p1, p2, p3, p4⟩ := gdT_R w2 gw cR
                rw [Compatibility_canReadFields_F]
                unfold Compatibility_canReadFields_b
                rw [Sa_on V, pl_ci Sc_fst]
                have B := Co_fl (M := m + 2 * n + 1) (n := n) (D1 := Da) (D2 := Db) (w := w) (dep := dep) V W (by rw [show m + 2 * n + 1 + 2 = m + 2 * n + 3 by omega]; exact R) (by omega) d0 (by omega) gw.1 p2 p3 p1 (fun y hy => ⟨(p4 y hy).1, (p4 y hy).2.1⟩) (spPt c D1 r) 0 ax_fuel (by obtain ⟨q, e⟩ := n2; rw [e]; simp) (by omega) n1 (fun y hy => ⟨(n4 y hy).1, (n4 y hy).2.1⟩) (by unfold ax_fuel; omega)
                rw [show (spPt c D1 r).getD 0 0 = r + 2 from by obtain ⟨q, e⟩ := n2; rw [e]; rfl] at B
                rw [show D1 - 1 = Da by omega, show D2 - 1 = Db by omega]
                refine (pl_ci B).trans ?_
                exact za_rz (bI_01 _)
              · rw [if_neg cR, if_neg cR]
                exact za_rz (v := 1) (Or.inr rfl)
        · rw [if_neg c3, if_neg (show ¬ Int32.ofInt (c r) = Int32.ofInt (d w) from by rw [zi_eq (by omega) (by omega) (by omega) (by omega)]; exact c3)]
          by_cases cI : d w = 73
          · rw [if_pos (show Int32.ofInt (d w) = 73 from by rw [cI]; rfl)]
            by_cases cL : c r = 76
            · rw [if_pos (show Int32.ofInt (c r) = 76 from by rw [cL]; rfl), decide_eq_true ⟨cI, cL⟩]
              exact za_rz (v := 1) (Or.inr rfl)
            · rw [if_neg (show ¬ Int32.ofInt (c r) = 76 from by rw [show (76 : Int32) = Int32.ofInt 76 from rfl, zi_eq (by omega) (by omega) (by omega) (by omega)]; exact cL), decide_eq_false (fun z => cL z.2)]
              exact za_rz (v := 0) (Or.inl rfl)
          · rw [if_neg (show ¬ Int32.ofInt (d w) = 73 from by rw [show (73 : Int32) = Int32.ofInt 73 from rfl, zi_eq (by omega) (by omega) (by omega) (by omega)]; exact cI), decide_eq_false (fun z => cI z.1)]
            exact za_rz (v := 0) (Or.inl rfl)
theorem gdS_T {l : Nat} {c : Int → Int} {fe fn fu : Nat → Int} (h : gdS l c fe fn fu) : gdT l c fe fn fu 6 0 := ⟨by omega, by rw [h.1]; omega, by rw [h.1]; exact h.2.1, h.2.2⟩
theorem Co_read {m : Nat} {h : ax_Hp} {sr sw l k : Nat} {c d : Int → Int} {fe fn fu ge gn gu : Nat → Int} (V : schA h sr l c fe fn fu) (W : schA h sw k d ge gn gu) (gv : gdS l c fe fn fu) (gw : gdS k d ge gn gu) : ax_F (m + 30) 71 [ax_A (some sr), ax_A (some sw)] h = some (.inl (some (ax_I (Int32.ofInt (bI (crd c d 13 6 6 0 0))))), h) := by
  rw [Compatibility_canRead_F]
  unfold Compatibility_canRead_b
  rw [zi_0, pl_ci (Co_all V W 13 m 6 6 0 0 0 (by omega) (by omega) (by omega) (gdS_T gv) (gdS_T gw))]
  exact za_rz (bI_01 _)
