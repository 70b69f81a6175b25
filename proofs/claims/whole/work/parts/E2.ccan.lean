/-- whether values of the writer's type at w (level D2, text d) can be resolved as the reader's at r (level D1, text c) -/
def crd (c d : Int → Int) : Nat → Nat → Nat → Int → Int → Bool
  | 0, _, _, _, _ => false
  | n + 1, D1, D2, r, w =>
    if d w = 85 then (spPt d D2 w).all (fun b => crd c d n D1 (D2 - 1) r b)
    else if c r = 85 then (spPt c D1 r).any (fun b => crd c d n (D1 - 1) D2 b w)
    else if c r = d w then
      if d w = 65 then crd c d n (D1 - 1) (D2 - 1) (r + 1) (w + 1)
      else if d w = 69 then decide (spSd c r ≠ -1) || (List.range (spSy d (w + 2) 8 0)).all (fun j => decide (spIx c (r + 2) (d (w + 2 + (j : Int))) (spSy c (r + 2) 8 0) ≠ -1))
      else if d w = 82 then (spPt c D1 r).all (fun f => if fnd d (c f) (spPt d D2 w) = -1 then decide (spGv c (D1 - 1) f ≠ -1) else crd c d n (D1 - 1) (D2 - 1) (f + 2) (fnd d (c f) (spPt d D2 w) + 2))
      else true
    else decide (d w = 73 ∧ c r = 76)
theorem crd_s (c d : Int → Int) (n D1 D2 : Nat) (r w : Int) : crd c d (n + 1) D1 D2 r w = if d w = 85 then (spPt d D2 w).all (fun b => crd c d n D1 (D2 - 1) r b) else if c r = 85 then (spPt c D1 r).any (fun b => crd c d n (D1 - 1) D2 b w) else if c r = d w then (if d w = 65 then crd c d n (D1 - 1) (D2 - 1) (r + 1) (w + 1) else if d w = 69 then decide (spSd c r ≠ -1) || (List.range (spSy d (w + 2) 8 0)).all (fun j => decide (spIx c (r + 2) (d (w + 2 + (j : Int))) (spSy c (r + 2) 8 0) ≠ -1)) else if d w = 82 then (spPt c D1 r).all (fun f => if fnd d (c f) (spPt d D2 w) = -1 then decide (spGv c (D1 - 1) f ≠ -1) else crd c d n (D1 - 1) (D2 - 1) (f + 2) (fnd d (c f) (spPt d D2 w) + 2)) else true) else decide (d w = 73 ∧ c r = 76) := rfl
def bI (b : Bool) : Int := if b then 1 else 0
theorem bI_01 (b : Bool) : bI b = 0 ∨ bI b = 1 := by cases b <;> decide
/-- the type at t, of level D, is read and marked -/
def gdT (l : Nat) (c : Int → Int) (fe fn fu : Nat → Int) (D : Nat) (t : Int) : Prop := 0 ≤ t ∧ 0 ≤ spTy c D t ∧ fe t.toNat = spTy c D t ∧ MkB fe fn fu c D t
theorem gdT_A {l : Nat} {c : Int → Int} {fe fn fu : Nat → Int} {D : Nat} {t : Int} (h : gdT l c fe fn fu D t) (hA : c t = 65) : ∃ D', D = D' + 1 ∧ gdT l c fe fn fu D' (t + 1) := by
  obtain ⟨h1, h2, h3, h4⟩ := h
  cases D with
  | zero => have := spTy_c 0 t h1 h2; omega
  | succ D =>
    obtain ⟨a, b⟩ := h4.2.1 hA
    exact ⟨D, rfl, by omega, by rw [← spTy_A hA]; exact h2, a, b⟩
theorem gdT_U {l : Nat} {c : Int → Int} {fe fn fu : Nat → Int} {D : Nat} {t : Int} (hc : ∀ p : Int, (l : Int) ≤ p → c p = 0) (h : gdT l c fe fn fu D t) (hU : c t = 85) : ∃ D', D = D' + 1 ∧ nxC fn (spPt c D t) ∧ (∃ k, spPt c D t = (t + 2) :: k) ∧ (spPt c D t).length ≤ 4 ∧ ∀ x ∈ spPt c D t, gdT l c fe fn fu D' x ∧ (0 ≤ x ∧ x < l) ∧ c x ≠ 85 := by
  obtain ⟨h1, h2, h3, h4⟩ := h
  cases D with
  | zero => have := spTy_c 0 t h1 h2; omega
  | succ D =>
    obtain ⟨a, b⟩ := h4.2.2.1 hU
    obtain ⟨p1, p2, p3⟩ := spPt_U hc h1 h2 hU
    refine ⟨D, rfl, a, p1, p2, fun x hx => ?_⟩
    obtain ⟨y1, y2, y3, y4⟩ := p3 x hx
    have g := spTy_gt hc D x (by omega) y2
    exact ⟨⟨by omega, y2, (b x hx).1, (b x hx).2⟩, by omega, y3⟩
theorem gdT_R {l : Nat} {c : Int → Int} {fe fn fu : Nat → Int} {D : Nat} {t : Int} (hc : ∀ p : Int, (l : Int) ≤ p → c p = 0) (h : gdT l c fe fn fu D t) (hR : c t = 82) : ∃ D', D = D' + 1 ∧ nxC fn (spPt c D t) ∧ (∃ k, spPt c D t = (t + 2) :: k) ∧ (spPt c D t).length ≤ 6 ∧ ∀ x ∈ spPt c D t, gdT l c fe fn fu D' (x + 2) ∧ (0 ≤ x ∧ x < l) ∧ isSm (c x) ∧ MkD fe fu c D' x ∧ 0 ≤ spFe c (spTy c D') (spVal c c false D') x := by
  obtain ⟨h1, h2, h3, h4⟩ := h
  cases D with
  | zero => have := spTy_c 0 t h1 h2; omega
  | succ D =>
    obtain ⟨a, b⟩ := h4.2.2.2 hR
    obtain ⟨p1, p2, p3⟩ := spPt_R (N := l) (by omega) hc h1 h2 hR
    refine ⟨D, rfl, a, p1, p2, fun x hx => ?_⟩
    obtain ⟨y1, y2, y3, y4, y5, y6⟩ := p3 x hx
    have g := spTy_gt hc D (x + 2) (by omega) y2
    exact ⟨⟨by omega, y2, (b x hx).1, (b x hx).2.1⟩, by omega, y3, (b x hx).2.2, y5⟩
theorem gdT_E {l : Nat} {c : Int → Int} {fe fn fu : Nat → Int} {D : Nat} {t : Int} (h : gdT l c fe fn fu D t) (hE : c t = 69) : 0 ≤ spE c t ∧ fe t.toNat = spE c t := by
  obtain ⟨h1, h2, h3, h4⟩ := h
  rw [spTy_E1 hE] at h2 h3
  exact ⟨h2, h3⟩
/-- what canReadType answers, for n steps -/
def rdC (h : ax_Hp) (sr sw l k : Nat) (c d : Int → Int) (fe fn fu ge gn gu : Nat → Int) (M n : Nat) : Prop := ∀ (D1 D2 : Nat) (r w dep : Int), D1 + D2 + 1 ≤ n → 0 ≤ dep → dep + D1 + D2 ≤ 12 → gdT l c fe fn fu D1 r → gdT k d ge gn gu D2 w → ax_F M 72 [ax_A (some sr), ax_I (Int32.ofInt r), ax_A (some sw), ax_I (Int32.ofInt w), ax_I (Int32.ofInt dep)] h = some (.inl (some (ax_I (Int32.ofInt (bI (crd c d n D1 D2 r w))))), h)
theorem Co_bl {M : Nat} {h : ax_Hp} {sr sw l k : Nat} {c d : Int → Int} {fe fn fu ge gn gu : Nat → Int} {n D1 D2 : Nat} {r dep : Int} (W : schA h sw k d ge gn gu) (R : rdC h sr sw l k c d fe fn fu ge gn gu (M + 1) n) (hn : D1 + D2 + 1 ≤ n) (d0 : 0 ≤ dep) (d1 : dep + 1 + D1 + D2 ≤ 12) (gr : gdT l c fe fn fu D1 r) : ∀ (fl : List Int) (i : Nat) (fuel : Nat), fl ≠ [] → i + fl.length ≤ 4 → nxC gn fl → (∀ y ∈ fl, gdT k d ge gn gu D2 y ∧ (0 ≤ y ∧ y < k)) → fl.length < fuel → Compatibility_canReadBranches_lp10 (ax_F (M + 1)) fuel (some sr) (Int32.ofInt r) (some sw) (Int32.ofInt dep) (Int32.ofInt (fl.getD 0 0)) (Int32.ofInt i) h = some (.inl (some (ax_I (Int32.ofInt (bI (fl.all (fun b => crd c d n D1 D2 r b)))))), h) := by
  obtain ⟨g1, g2, g3, g4⟩ := Sa_lt W
  intro fl
  induction fl with
  | nil => intro i fuel z; exact absurd rfl z
  | cons y fl ih =>
    intro i fuel _ hi hnx hy hf
    obtain ⟨fuel, rfl⟩ : ∃ g, fuel = g + 1 := ⟨fuel - 1, by omega⟩
    have hstep : Compatibility_canReadBranches_lp10 (ax_F (M + 1)) (fuel + 1) = Compatibility_canReadBranches_bd10 (ax_F (M + 1)) (Compatibility_canReadBranches_lp10 (ax_F (M + 1)) fuel) := rfl
    rw [List.length_cons] at hi hf
    obtain ⟨yg, y0⟩ := hy y List.mem_cons_self
    have hg : (y :: fl).getD 0 0 = y := rfl
    have nx1 := Sa_next (m := M) W y0.1 y0.2
    rw [hstep, hg, List.all_cons]
    unfold Compatibility_canReadBranches_bd10
    rw [if_neg (show ¬ (4 : Int32) ≤ Int32.ofInt i from by rw [show (4 : Int32) = Int32.ofInt 4 from rfl, zi_le (by omega) (by omega) (by omega) (by omega)]; omega), if_neg (show ¬ Int32.ofInt y = -1 from by rw [show (-1 : Int32) = Int32.ofInt (-1) from rfl, zi_eq (by omega) (by omega) (by omega) (by omega)]; omega), show (1 : Int32) = Int32.ofInt 1 from rfl, zi_add, pl_ci (R D1 D2 r y (dep + 1) hn (by omega) (by omega) gr yg)]
    cases crd c d n D1 D2 r y with
    | false =>
      rw [if_pos (show Int32.ofInt (bI false) = 0 from rfl)]
      exact za_rz (v := 0) (Or.inl rfl)
    | true =>
      rw [if_neg (show ¬ Int32.ofInt (bI true) = 0 from by decide), Sa_on W, pl_ci nx1, zi_add, Bool.true_and]
      cases fl with
      | nil =>
        have hn1 : gn y.toNat = -1 := hnx
        obtain ⟨fuel, rfl⟩ : ∃ g, fuel = g + 1 := ⟨fuel - 1, by omega⟩
        have hstep : Compatibility_canReadBranches_lp10 (ax_F (M + 1)) (fuel + 1) = Compatibility_canReadBranches_bd10 (ax_F (M + 1)) (Compatibility_canReadBranches_lp10 (ax_F (M + 1)) fuel) := rfl
        rw [hn1, hstep]
        unfold Compatibility_canReadBranches_bd10
        by_cases c4 : (4 : Int32) ≤ Int32.ofInt (i + 1)
        · rw [if_pos c4]; exact za_rz (v := 1) (Or.inr rfl)
        · rw [if_neg c4, if_pos (show Int32.ofInt (-1) = -1 from rfl)]; exact za_rz (v := 1) (Or.inr rfl)
      | cons z fl =>
        have hn1 : gn y.toNat = z := hnx.1
        rw [hn1]
        have := ih (i + 1) fuel (by simp) (by omega) hnx.2 (fun w hw => hy w (List.mem_cons_of_mem _ hw)) (by omega)
        rw [show (z :: fl).getD 0 0 = z from rfl] at this
        rw [show (i : Int) + 1 = ((i + 1 : Nat) : Int) by omega, this]
/-- the first of the list for which p holds: its number from i on, -1 without one -/
def fstI (p : Int → Bool) : List Int → Nat → Int
  | [], _ => -1
  | x :: l, i => if p x then (i : Int) else fstI p l (i + 1)
theorem fstI_any (p : Int → Bool) : ∀ (l : List Int) (i : Nat), (fstI p l i = -1 ↔ l.any p = false) ∧ -1 ≤ fstI p l i ∧ fstI p l i < i + l.length
  | [], i => ⟨⟨fun _ => rfl, fun _ => rfl⟩, by show (-1 : Int) ≤ -1; omega, by show (-1 : Int) < _; rw [List.length_nil]; omega⟩
  | x :: l, i => by
    have ih := fstI_any p l (i + 1)
    have e : fstI p (x :: l) i = if p x then (i : Int) else fstI p l (i + 1) := rfl
    rw [e, List.any_cons, List.length_cons]
    cases p x with
    | true => rw [if_pos rfl, Bool.true_or]; exact ⟨⟨fun z => by omega, fun z => absurd z (by decide)⟩, by omega, by omega⟩
    | false => rw [if_neg (by decide), Bool.false_or]; exact ⟨ih.1, ih.2.1, by have := ih.2.2; omega⟩
theorem Co_rb {M : Nat} {h : ax_Hp} {sr sw l k : Nat} {c d : Int → Int} {fe fn fu ge gn gu : Nat → Int} {n D1 D2 : Nat} {w dep : Int} (V : schA h sr l c fe fn fu) (R : rdC h sr sw l k c d fe fn fu ge gn gu (M + 1) n) (hn : D1 + D2 + 1 ≤ n) (d0 : 0 ≤ dep) (d1 : dep + 1 + D1 + D2 ≤ 12) (gw : gdT k d ge gn gu D2 w) : ∀ (fl : List Int) (i : Nat) (fuel : Nat), fl ≠ [] → i + fl.length ≤ 4 → nxC fn fl → (∀ y ∈ fl, gdT l c fe fn fu D1 y ∧ (0 ≤ y ∧ y < l)) → fl.length < fuel → Compatibility_readingBranch_lp10 (ax_F (M + 1)) fuel (some sr) (some sw) (Int32.ofInt w) (Int32.ofInt dep) (Int32.ofInt (fl.getD 0 0)) (Int32.ofInt i) h = some (.inl (some (ax_I (Int32.ofInt (fstI (fun b => crd c d n D1 D2 b w) fl i)))), h) := by
  obtain ⟨g1, g2, g3, g4⟩ := Sa_lt V
  intro fl
  induction fl with
  | nil => intro i fuel z; exact absurd rfl z
  | cons y fl ih =>
    intro i fuel _ hi hnx hy hf
    obtain ⟨fuel, rfl⟩ : ∃ g, fuel = g + 1 := ⟨fuel - 1, by omega⟩
    have hstep : Compatibility_readingBranch_lp10 (ax_F (M + 1)) (fuel + 1) = Compatibility_readingBranch_bd10 (ax_F (M + 1)) (Compatibility_readingBranch_lp10 (ax_F (M + 1)) fuel) := rfl
    rw [List.length_cons] at hi hf
    obtain ⟨yg, y0⟩ := hy y List.mem_cons_self
    have hg : (y :: fl).getD 0 0 = y := rfl
    have nx1 := Sa_next (m := M) V y0.1 y0.2
    have e : fstI (fun b => crd c d n D1 D2 b w) (y :: fl) i = if crd c d n D1 D2 y w then (i : Int) else fstI (fun b => crd c d n D1 D2 b w) fl (i + 1) := rfl
    rw [hstep, hg, e]
    unfold Compatibility_readingBranch_bd10
    rw [if_neg (show ¬ (4 : Int32) ≤ Int32.ofInt i from by rw [show (4 : Int32) = Int32.ofInt 4 from rfl, zi_le (by omega) (by omega) (by omega) (by omega)]; omega), if_neg (show ¬ Int32.ofInt y = -1 from by rw [show (-1 : Int32) = Int32.ofInt (-1) from rfl, zi_eq (by omega) (by omega) (by omega) (by omega)]; omega), show (1 : Int32) = Int32.ofInt 1 from rfl, zi_add, pl_ci (R D1 D2 y w (dep + 1) hn (by omega) (by omega) yg gw)]
    cases crd c d n D1 D2 y w with
    | true =>
      rw [if_neg (show ¬ Int32.ofInt (bI true) = 0 from by decide), if_pos rfl]
      rfl
    | false =>
      rw [if_pos (show Int32.ofInt (bI false) = 0 from rfl), if_neg (show ¬ false = true by decide), Sa_on V, pl_ci nx1, zi_add]
      cases fl with
      | nil =>
        have hn1 : fn y.toNat = -1 := hnx
        obtain ⟨fuel, rfl⟩ : ∃ g, fuel = g + 1 := ⟨fuel - 1, by omega⟩
        have hstep : Compatibility_readingBranch_lp10 (ax_F (M + 1)) (fuel + 1) = Compatibility_readingBranch_bd10 (ax_F (M + 1)) (Compatibility_readingBranch_lp10 (ax_F (M + 1)) fuel) := rfl
        rw [hn1, hstep]
        unfold Compatibility_readingBranch_bd10
        by_cases c4 : (4 : Int32) ≤ Int32.ofInt (i + 1)
        · rw [if_pos c4]; rfl
        · rw [if_neg c4, if_pos (show Int32.ofInt (-1) = -1 from rfl)]; rfl
      | cons z fl =>
        have hn1 : fn y.toNat = z := hnx.1
        rw [hn1]
        have := ih (i + 1) fuel (by simp) (by omega) hnx.2 (fun w hw => hy w (List.mem_cons_of_mem _ hw)) (by omega)
        rw [show (z :: fl).getD 0 0 = z from rfl] at this
        rw [show (i : Int) + 1 = ((i + 1 : Nat) : Int) by omega, this]
theorem Co_syL {M : Nat} {h : ax_Hp} {sr sw l k : Nat} {c d : Int → Int} {fe fn fu ge gn gu : Nat → Int} {r w : Int} {K : Nat} (V : schA h sr l c fe fn fu) (W : schA h sw k d ge gn gu) (r0 : 0 ≤ r) (r1 : r ≤ 160) (w0 : 0 ≤ w) (w1 : w ≤ 160) (hr : 0 ≤ spE c r) (hK : K ≤ 8) (hKs : ∀ j : Nat, j < K → isSm (d (w + 2 + j))) : ∀ (f j fuel : Nat), j + f = K → f < fuel → Compatibility_canReadSymbols_lp21 (ax_F (M + 2)) fuel (some sr) (Int32.ofInt r) (some sw) (Int32.ofInt w) (Int32.ofInt K) (Int32.ofInt j) h = some (.inl (some (ax_I (Int32.ofInt (bI ((List.range' j f).all (fun j => decide (spIx c (r + 2) (d (w + 2 + (j : Int))) (spSy c (r + 2) 8 0) ≠ -1))))))), h) := by
  obtain ⟨g1, g2, g3, g4⟩ := Sa_lt W
  intro f
  induction f with
  | zero =>
    intro j fuel hj hf
    obtain ⟨fuel, rfl⟩ : ∃ g, fuel = g + 1 := ⟨fuel - 1, by omega⟩
    have hstep : Compatibility_canReadSymbols_lp21 (ax_F (M + 2)) (fuel + 1) = Compatibility_canReadSymbols_bd21 (ax_F (M + 2)) (Compatibility_canReadSymbols_lp21 (ax_F (M + 2)) fuel) := rfl
    rw [hstep]
    unfold Compatibility_canReadSymbols_bd21
    rw [if_pos (show Int32.ofInt K ≤ Int32.ofInt j from by rw [zi_le (by omega) (by omega) (by omega) (by omega)]; omega)]
    exact za_rz (v := 1) (Or.inr rfl)
  | succ f ih =>
    intro j fuel hj hf
    obtain ⟨fuel, rfl⟩ : ∃ g, fuel = g + 1 := ⟨fuel - 1, by omega⟩
    have hstep : Compatibility_canReadSymbols_lp21 (ax_F (M + 2)) (fuel + 1) = Compatibility_canReadSymbols_bd21 (ax_F (M + 2)) (Compatibility_canReadSymbols_lp21 (ax_F (M + 2)) fuel) := rfl
    have sm := hKs j (by omega)
    have cb := g3 (w + 2 + j)
    have rg := spIx_r (c := c) (p := r + 2) (x := d (w + 2 + j)) (spSy c (r + 2) 8 0)
    have k8 := (spSy_k (c := c) (p := r + 2) 8 0).2.1
    rw [hstep, List.range'_succ, List.all_cons]
    unfold Compatibility_canReadSymbols_bd21
    rw [if_neg (show ¬ Int32.ofInt K ≤ Int32.ofInt j from by rw [zi_le (by omega) (by omega) (by omega) (by omega)]; omega), Sa_on W, pl_ci (Sa_sb W w0 (by omega) (by omega) (by omega)), atC_in (by omega) (g4 _ (by omega)), Sa_on V, pl_ci (Sa_sym V r0 r1 hr (by omega) (by omega))]
    by_cases z : spIx c (r + 2) (d (w + 2 + j)) (spSy c (r + 2) 8 0) = -1
    · rw [if_pos (show Int32.ofInt (spIx c (r + 2) (d (w + 2 + j)) (spSy c (r + 2) 8 0)) = -1 from by rw [z]; rfl), decide_eq_false (fun y => y z), Bool.false_and]
      exact za_rz (v := 0) (Or.inl rfl)
    · rw [if_neg (show ¬ Int32.ofInt (spIx c (r + 2) (d (w + 2 + j)) (spSy c (r + 2) 8 0)) = -1 from by rw [show (-1 : Int32) = Int32.ofInt (-1) from rfl, zi_eq (by omega) (by omega) (by omega) (by omega)]; exact z), decide_eq_true z, Bool.true_and, show (1 : Int32) = Int32.ofInt 1 from rfl, zi_add]
      exact ih (j + 1) fuel (by omega) (by omega)
theorem Co_sy {M : Nat} {h : ax_Hp} {sr sw l k : Nat} {c d : Int → Int} {fe fn fu ge gn gu : Nat → Int} {r w : Int} (V : schA h sr l c fe fn fu) (W : schA h sw k d ge gn gu) (r0 : 0 ≤ r) (w0 : 0 ≤ w) (hcr : c r = 69) (hdw : d w = 69) (hr : 0 ≤ spE c r) (hw : 0 ≤ spE d w) (her : fe r.toNat = spE c r) : ax_F (M + 3) 75 [ax_A (some sr), ax_I (Int32.ofInt r), ax_A (some sw), ax_I (Int32.ofInt w)] h = some (.inl (some (ax_I (Int32.ofInt (bI (decide (spSd c r ≠ -1) || (List.range (spSy d (w + 2) 8 0)).all (fun j => decide (spIx c (r + 2) (d (w + 2 + (j : Int))) (spSy c (r + 2) 8 0) ≠ -1))))))), h) := by
  have rl := (Sa_lt V).2.2.2 r (by omega)
  have wl := (Sa_lt W).2.2.2 w (by omega)
  have r1 := (Sa_lt V).1
  have w1 := (Sa_lt W).1
  have cb := (Sa_lt V).2.2.1 (r + 2 + spSy c (r + 2) 8 0 + 1)
  rw [Compatibility_canReadSymbols_F]
  unfold Compatibility_canReadSymbols_b
  rw [Sa_on V, pl_ci (Sa_sd V r0 hcr hr her)]
  have sb : -1 ≤ spSd c r ∧ spSd c r < 128 := by unfold spSd; split <;> omega
  by_cases z : spSd c r = -1
  · rw [if_pos (show Int32.ofInt (spSd c r) = -1 from by rw [z]; rfl), decide_eq_false (fun y => y z), Bool.false_or, Sa_on W, pl_ci (Sa_sc W w0 (by omega) hw), List.range_eq_range']
    exact Co_syL V W r0 (by omega) w0 (by omega) hr (spSy_k (c := d) (p := w + 2) 8 0).2.1 (fun j hj => (spSy_k (c := d) (p := w + 2) 8 0).2.2 j (by omega) hj) _ 0 ax_fuel (by omega) (by have := (spSy_k (c := d) (p := w + 2) 8 0).2.1; unfold ax_fuel; omega)
  · rw [if_neg (show ¬ Int32.ofInt (spSd c r) = -1 from by rw [show (-1 : Int32) = Int32.ofInt (-1) from rfl, zi_eq (by omega) (by omega) (by omega) (by omega)]; exact z), decide_eq_true z, Bool.true_or]
    exact za_rz (v := 1) (Or.inr rfl)
