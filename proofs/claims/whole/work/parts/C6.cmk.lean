/-- the end of the default of the E at t is marked -/
def MkE (en : Nat → Int) (c : Int → Int) (t : Int) : Prop := c t = 69 → spEq c t → en (t + 2 + spSy c (t + 2) 8 0 + 1).toNat = t + 2 + spSy c (t + 2) 8 0 + 2
/-- the marks of the default of the field at x -/
def MkD (en un : Nat → Int) (c : Int → Int) (D : Nat) (x : Int) : Prop := c (spTy c D (x + 2)) = 61 → en (spTy c D (x + 2) + 1).toNat = spVal c c false D (x + 2) (spTy c D (x + 2) + 1) ∧ ∀ i : Nat, spTy c D (x + 2) + 1 ≤ i → (i : Int) < spVal c c false D (x + 2) (spTy c D (x + 2) + 1) → un i = if (i : Int) ∈ spU c c false D (x + 2) (spTy c D (x + 2) + 1) then 1 else 0
/-- the marks inside the type at t -/
def MkB (en nx un : Nat → Int) (c : Int → Int) : Nat → Int → Prop
  | 0, t => MkE en c t
  | D + 1, t => MkE en c t ∧ (c t = 65 → en (t + 1).toNat = spTy c D (t + 1) ∧ MkB en nx un c D (t + 1)) ∧ (c t = 85 → nxC nx (spPt c (D + 1) t) ∧ ∀ x ∈ spPt c (D + 1) t, en x.toNat = spTy c D x ∧ MkB en nx un c D x) ∧ (c t = 82 → nxC nx (spPt c (D + 1) t) ∧ ∀ x ∈ spPt c (D + 1) t, en (x + 2).toNat = spTy c D (x + 2) ∧ MkB en nx un c D (x + 2) ∧ MkD en un c D x)
theorem MkB_N {en nx un : Nat → Int} {c : Int → Int} : ∀ (D : Nat) (t : Int), MkB en nx un c D t → MkN nx c D t
  | 0, _, _ => trivial
  | D + 1, t, ⟨_, h2, h3, h4⟩ => ⟨fun z => MkB_N D _ (h2 z).2, fun z => ⟨(h3 z).1, fun x hx => MkB_N D x ((h3 z).2 x hx).2⟩, fun z => ⟨(h4 z).1, fun x hx => MkB_N D _ ((h4 z).2 x hx).2.1⟩⟩
theorem MkB_E {en nx un : Nat → Int} {c : Int → Int} : ∀ {D : Nat} {t : Int}, MkB en nx un c D t → MkE en c t
  | 0, _, h => h
  | _ + 1, _, h => h.1
theorem nxC_fr {nx nx' : Nat → Int} : ∀ (l : List Int), (∀ x ∈ l, nx' x.toNat = nx x.toNat) → nxC nx l → nxC nx' l
  | [], _, h => h
  | [x], e, h => (e x List.mem_cons_self).trans h
  | x :: y :: l, e, h => ⟨(e x List.mem_cons_self).trans h.1, nxC_fr (y :: l) (fun z hz => e z (List.mem_cons_of_mem _ hz)) h.2⟩
theorem spE_def {c : Int → Int} {t : Int} (t0 : 0 ≤ t) (h : 0 ≤ spE c t) (hq : spEq c t) : t + 2 + spSy c (t + 2) 8 0 + 3 = spE c t := by
  obtain ⟨a, b, d⟩ := spE_in t0 h
  unfold spE at h ⊢
  have hq' : c (t + 2 + spSy c (t + 2) 8 0) = 61 := hq
  rw [if_pos a, if_neg (by omega), if_pos hq'] at h ⊢
  by_cases c1 : spIx c (t + 2) (c (t + 2 + spSy c (t + 2) 8 0 + 1)) (spSy c (t + 2) 8 0) < 0
  · rw [if_pos c1] at h; omega
  · rw [if_neg c1] at h ⊢
    by_cases c2 : c (t + 2 + spSy c (t + 2) 8 0 + 2) = 41
    · rw [if_pos c2]
    · rw [if_neg c2] at h; omega
theorem spTy_E1 {c : Int → Int} {D : Nat} {t : Int} (hE : c t = 69) : spTy c D t = spE c t := by
  cases D with
  | zero => rw [spTy_0]; unfold spT0; rw [if_neg (by omega), if_pos hE]
  | succ D => rw [spTy_s]; unfold spT1; rw [if_neg (by omega), if_pos hE]
theorem spFe_n {c : Int → Int} {D : Nat} {x : Int} (hq : c (spTy c D (x + 2)) = 61) : spFe c (spTy c D) (spVal c c false D) x = spVal c c false D (x + 2) (spTy c D (x + 2) + 1) := by unfold spFe; rw [if_pos hq]
theorem spFe_o {c : Int → Int} {D : Nat} {x : Int} (hq : ¬ c (spTy c D (x + 2)) = 61) : spFe c (spTy c D) (spVal c c false D) x = spTy c D (x + 2) := by unfold spFe; rw [if_neg hq]
/-- nothing but the cells inside matters -/
theorem MkB_fr {N : Int} {en nx un en' nx' un' : Nat → Int} {c : Int → Int} (hN : 0 ≤ N) (hc : ∀ p, N ≤ p → c p = 0) : ∀ (D : Nat) (t : Int), 0 ≤ t → 0 ≤ spTy c D t → (∀ i : Nat, t < i → (i : Int) < spTy c D t → en' i = en i ∧ nx' i = nx i ∧ un' i = un i) → MkB en nx un c D t → MkB en' nx' un' c D t := by
  have hE : ∀ (D : Nat) (t : Int), 0 ≤ t → 0 ≤ spTy c D t → (∀ i : Nat, t < i → (i : Int) < spTy c D t → en' i = en i ∧ nx' i = nx i ∧ un' i = un i) → MkE en c t → MkE en' c t := by
    intro D t t0 hT f h z1 z2
    rw [spTy_E1 z1] at f hT
    have := spE_def t0 hT z2
    rw [(f _ (by omega) (by omega)).1]
    exact h z1 z2
  intro D
  induction D with
  | zero => exact fun t t0 hT f h => hE 0 t t0 hT f h
  | succ D ih =>
    intro t t0 hT f h
    obtain ⟨h1, h2, h3, h4⟩ := h
    refine ⟨hE (D + 1) t t0 hT f h1, fun z => ?_, fun z => ?_, fun z => ?_⟩
    · obtain ⟨a, b⟩ := h2 z
      rw [spTy_A z] at hT f
      have g := spTy_gt hc D (t + 1) (by omega) hT
      exact ⟨by rw [(f _ (by omega) (by omega)).1]; exact a, ih (t + 1) (by omega) hT (fun i i0 i1 => f i (by omega) i1) b⟩
    · obtain ⟨a, b⟩ := h3 z
      obtain ⟨p1, p2, p3⟩ := spPt_U hc t0 hT z
      refine ⟨nxC_fr _ (fun x hx => ?_) a, fun x hx => ?_⟩
      · obtain ⟨y1, y2, y3, y4⟩ := p3 x hx
        have g := spTy_gt hc D x (by omega) y2
        exact (f _ (by omega) (by omega)).2.1
      · obtain ⟨y1, y2, y3, y4⟩ := p3 x hx
        have g := spTy_gt hc D x (by omega) y2
        exact ⟨by rw [(f _ (by omega) (by omega)).1]; exact (b x hx).1, ih x (by omega) y2 (fun i i0 i1 => f i (by omega) (by omega)) (b x hx).2⟩
    · obtain ⟨a, b⟩ := h4 z
      obtain ⟨p1, p2, p3⟩ := spPt_R hN hc t0 hT z
      refine ⟨nxC_fr _ (fun x hx => ?_) a, fun x hx => ?_⟩
      · obtain ⟨y1, y2, y3, y4, y5, y6⟩ := p3 x hx
        have g := spTy_gt hc D (x + 2) (by omega) y2
        have ge : spTy c D (x + 2) ≤ spFe c (spTy c D) (spVal c c false D) x := by
          by_cases w : c (spTy c D (x + 2)) = 61
          · rw [spFe_n w] at y5 ⊢
            have := (spVal_gt' hc D (x + 2) _ (by omega) y5 hN).1
            omega
          · rw [spFe_o w]; omega
        exact (f _ (by omega) (by omega)).2.1
      · obtain ⟨y1, y2, y3, y4, y5, y6⟩ := p3 x hx
        have g := spTy_gt hc D (x + 2) (by omega) y2
        have ge : spTy c D (x + 2) ≤ spFe c (spTy c D) (spVal c c false D) x := by
          by_cases w : c (spTy c D (x + 2)) = 61
          · rw [spFe_n w] at y5 ⊢
            have := (spVal_gt' hc D (x + 2) _ (by omega) y5 hN).1
            omega
          · rw [spFe_o w]; omega
        obtain ⟨b1, b2, b3⟩ := b x hx
        refine ⟨by rw [(f _ (by omega) (by omega)).1]; exact b1, ih (x + 2) (by omega) y2 (fun i i0 i1 => f i (by omega) (by omega)) b2, fun w => ?_⟩
        obtain ⟨d1, d2⟩ := b3 w
        rw [spFe_n w] at y5 y6
        have g2 := (spVal_gt' hc D (x + 2) _ (by omega) y5 hN).1
        exact ⟨by rw [(f _ (by omega) (by omega)).1]; exact d1, fun i i0 i1 => by rw [(f i (by omega) (by omega)).2.2]; exact d2 i i0 i1⟩
/-- marks outside of a .. b are as they were -/
def mkF (s s' : cS) (a b : Int) : Prop := ∀ i : Nat, ((i : Int) < a ∨ b ≤ i) → s'.2.1 i = s.2.1 i ∧ s'.2.2.1 i = s.2.2.1 i ∧ s'.2.2.2.1 i = s.2.2.2.1 i
theorem mkF.trans {s s1 s2 : cS} {a b a' b' : Int} (h : mkF s s1 a b) (h1 : mkF s1 s2 a' b') (ha : a ≤ a') (hb : b ≤ b') : mkF s s2 a b' := fun i hi => by
  obtain ⟨x1, x2, x3⟩ := h i (by omega)
  obtain ⟨y1, y2, y3⟩ := h1 i (by omega)
  exact ⟨y1.trans x1, y2.trans x2, y3.trans x3⟩
theorem mkF_le {s s' : cS} {a b a' b' : Int} (h : mkF s s' a b) (ha : a' ≤ a) (hb : b ≤ b') : mkF s s' a' b' := fun i hi => h i (by omega)
theorem mkF_0 {s s' : cS} (h : s'.2 = s.2) (a b : Int) : mkF s s' a b := fun i _ => by rw [h]; exact ⟨rfl, rfl, rfl⟩
/-- nothing is marked yet from q on -/
def frs (s : cS) (q : Int) : Prop := ∀ i : Nat, q ≤ i → s.2.2.1 i = -1 ∧ s.2.2.2.1 i = 0
theorem frs_of {s s' : cS} {q a b : Int} (h : frs s q) (f : mkF s s' a b) (hb : b ≤ q ∨ True) {q' : Int} (h1 : b ≤ q') (h2 : q ≤ q') : frs s' q' := fun i hi => by
  obtain ⟨x1, x2, x3⟩ := f i (by omega)
  rw [x2, x3]
  exact h i (by omega)
def mkBs (s : cS) (c : Int → Int) (D : Nat) (t : Int) : Prop := MkB s.2.1 s.2.2.1 s.2.2.2.1 c D t
theorem mkBs_fr {N : Int} {s s' : cS} {c : Int → Int} {D : Nat} {t a b : Int} (hN : 0 ≤ N) (hc : ∀ p, N ≤ p → c p = 0) (t0 : 0 ≤ t) (hT : 0 ≤ spTy c D t) (f : mkF s s' a b) (hab : spTy c D t ≤ a ∨ b ≤ t + 1) (h : mkBs s c D t) : mkBs s' c D t := MkB_fr hN hc D t t0 hT (fun i i0 i1 => f i (by omega)) h
/-- a reader of schemas at sr -/
def srX (g : ax_Hp) (K : Nat → Nat) (sr sc vr : Nat) : Prop := g.2.2 sr = some (.inl (4, [ax_A (some (K 0)), ax_A (some sc), ax_A (some vr)])) ∧ ∀ i, i < 6 → sr ≠ K i
theorem sr_gr0 {g : ax_Hp} {K : Nat → Nat} {sr sc vr : Nat} {s : cS} (X : srX g K sr sc vr) : ax_gr (cH g K s) (some sr) 4 0 = some (some (K 0)) := pl_gr ((cH_o X.2).trans X.1) rfl
theorem sr_gr1 {g : ax_Hp} {K : Nat → Nat} {sr sc vr : Nat} {s : cS} (X : srX g K sr sc vr) : ax_gr (cH g K s) (some sr) 4 1 = some (some sc) := pl_gr ((cH_o X.2).trans X.1) rfl
theorem sr_gr2 {g : ax_Hp} {K : Nat → Nat} {sr sc vr : Nat} {s : cS} (X : srX g K sr sc vr) : ax_gr (cH g K s) (some sr) 4 2 = some (some vr) := pl_gr ((cH_o X.2).trans X.1) rfl
theorem sr_on {g : ax_Hp} {K : Nat → Nat} {sr sc vr : Nat} {s : cS} (X : srX g K sr sc vr) (k : ax_O) : ax_on (cH g K s) (some sr) 4 k = k := pl_on ((cH_o X.2).trans X.1)
