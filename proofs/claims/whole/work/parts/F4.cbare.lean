theorem spFe_ge {N : Int} {c : Int → Int} {D : Nat} {x : Int} (hN : 0 ≤ N) (hc : ∀ p, N ≤ p → c p = 0) (hT : 0 ≤ spTy c D (x + 2)) (hF : 0 ≤ spFe c (spTy c D) (spVal c c false D) x) : spTy c D (x + 2) ≤ spFe c (spTy c D) (spVal c c false D) x ∧ (c (spTy c D (x + 2)) = 61 → spTy c D (x + 2) + 1 < spFe c (spTy c D) (spVal c c false D) x) := by
  by_cases q : c (spTy c D (x + 2)) = 61
  · rw [spFe_n q] at hF ⊢
    have := (spVal_gt' hc D (x + 2) (spTy c D (x + 2) + 1) (by omega) hF hN).1
    exact ⟨by omega, fun _ => this⟩
  · rw [spFe_o q]
    exact ⟨Int.le_refl _, fun z => absurd z q⟩
/-- the defaults inside a type lie inside it -/
theorem spX_in {N : Int} {c : Int → Int} (hN : 0 ≤ N) (hc : ∀ p, N ≤ p → c p = 0) : ∀ (D : Nat) (p i : Int), 0 ≤ p → 0 ≤ spTy c D p → spX c D p i → p ≤ i ∧ i < spTy c D p
  | 0, p, i, p0, hT, ⟨h1, h2, h3, h4⟩ => by
    rw [spTy_E1 h1] at hT ⊢
    have := spE_def p0 hT h2
    omega
  | D + 1, p, i, p0, hT, h => by
    rcases h with ⟨h1, h2, h3, h4⟩ | ⟨h1, h2⟩ | ⟨h1, x, hx, h2⟩ | ⟨h1, x, hx, h2⟩
    · rw [spTy_E1 h1] at hT ⊢
      have := spE_def p0 hT h2
      omega
    · rw [spTy_A h1] at hT ⊢
      have := spX_in hN hc D (p + 1) i (by omega) hT h2
      omega
    · obtain ⟨-, -, u⟩ := spPt_U hc p0 hT h1
      obtain ⟨u1, u2, u3, u4⟩ := u x hx
      have := spX_in hN hc D x i (by omega) u2 h2
      omega
    · obtain ⟨-, -, u⟩ := spPt_R hN hc p0 hT h1
      obtain ⟨u1, u2, u3, u4, u5, u6⟩ := u x hx
      have g1 := spFe_ge hN hc u2 u5
      have g2 := (spTy_gt hc D (x + 2) (by omega) u2).1
      rcases h2 with h2 | ⟨h2, h3, h4⟩
      · have := spX_in hN hc D (x + 2) i (by omega) u2 h2
        omega
      · omega
theorem spE_cl {c : Int → Int} {t : Int} (t0 : 0 ≤ t) (h : 0 ≤ spE c t) (hq : spEq c t) : c (t + 2 + spSy c (t + 2) 8 0 + 2) = 41 := by
  obtain ⟨a, b, d⟩ := spE_in t0 h
  unfold spE at h
  have hq' : c (t + 2 + spSy c (t + 2) 8 0) = 61 := hq
  rw [if_pos a, if_neg (by omega), if_pos hq'] at h
  by_cases c1 : spIx c (t + 2) (c (t + 2 + spSy c (t + 2) 8 0 + 1)) (spSy c (t + 2) 8 0) < 0
  · rw [if_pos c1] at h; omega
  · rw [if_neg c1] at h
    by_cases c2 : c (t + 2 + spSy c (t + 2) 8 0 + 2) = 41
    · exact c2
    · rw [if_neg c2] at h; omega
theorem bw_1 {c : Int → Int} {fe : Nat → Int} {mk : Int → Int} {p : Int} (h1 : c p ≠ 61) (h2 : mk p = 0) : bw c fe mk 1 p (p + 1) := Or.inl ⟨by omega, h1, h2, rfl⟩
theorem bw_E {c : Int → Int} {fe : Nat → Int} {mk : Int → Int} {p : Int} {D : Nat} (p0 : 0 ≤ p) (hE : c p = 69) (h : 0 ≤ spE c p) (M : MkE fe c p) (hm : ∀ i, p ≤ i → i < spE c p → (mk i ≠ 0 ↔ spX c D p i)) : ∃ k, bw c fe mk k p (spE c p) := by
  obtain ⟨a, b, d⟩ := spE_in p0 h
  have sy := (spSy_k (c := c) (p := p + 2) 8 0).2.2
  have hm' : ∀ i, p ≤ i → i < spE c p → (mk i ≠ 0 ↔ spEq c p ∧ p + 2 + spSy c (p + 2) 8 0 ≤ i ∧ i < p + 2 + spSy c (p + 2) 8 0 + 2) := fun i h1 h2 => (hm i h1 h2).trans (spX_E hE)
  have le : p + 2 + spSy c (p + 2) 8 0 + 1 ≤ spE c p := by
    by_cases q : spEq c p
    · have := spE_def p0 h q; omega
    · have := spE_nd p0 h q; omega
  have run := bw_run (c := c) (fe := fe) (mk := mk) (spSy c (p + 2) 8 0 + 2) p (fun i i0 i1 => by
    refine ⟨?_, Decidable.byContradiction fun z => by have := (hm' i (by omega) (by omega)).mp z; omega⟩
    by_cases c1 : i = p
    · rw [c1]; omega
    · by_cases c2 : i = p + 1
      · rw [c2]; omega
      · have := sy (i - (p + 2)).toNat (Nat.zero_le _) (by omega)
        rw [show p + 2 + ((i - (p + 2)).toNat : Int) = i by omega] at this
        omega)
  rw [show p + ((spSy c (p + 2) 8 0 + 2 : Nat) : Int) = p + 2 + spSy c (p + 2) 8 0 by omega] at run
  by_cases q : spEq c p
  · have e := spE_def p0 h q
    have en := M hE q
    have cl := spE_cl p0 h q
    have q' : c (p + 2 + spSy c (p + 2) 8 0) = 61 := q
    have pr : p + 2 ≤ p + 2 + (spSy c (p + 2) 8 0 : Int) := by omega
    generalize p + 2 + (spSy c (p + 2) 8 0 : Int) = r at *
    have j : bw c fe mk 1 r (r + 2) := Or.inr ⟨by omega, q', by omega, by omega, fun i i0 i1 => (hm' i (by omega) (by omega)).mpr ⟨q, by omega, by omega⟩, by show fe (r + 1).toNat = r + 2; omega⟩
    have k : bw c fe mk 1 (r + 2) (r + 2 + 1) := bw_1 (by omega) (Decidable.byContradiction fun z => by have := (hm' (r + 2) (by omega) (by omega)).mp z; omega)
    rw [show r + 2 + 1 = spE c p by omega] at k
    exact ⟨_, bw_app _ _ _ _ _ run (bw_app _ _ _ _ _ j k)⟩
  · have e := spE_nd p0 h q
    have q' : ¬ c (p + 2 + spSy c (p + 2) 8 0) = 61 := q
    have pr : p + 2 ≤ p + 2 + (spSy c (p + 2) 8 0 : Int) := by omega
    generalize p + 2 + (spSy c (p + 2) 8 0 : Int) = r at *
    have k : bw c fe mk 1 r (r + 1) := bw_1 q' (Decidable.byContradiction fun z => q ((hm' r (by omega) (by omega)).mp z).1)
    rw [show r + 1 = spE c p by omega] at k
    exact ⟨_, bw_app _ _ _ _ _ run k⟩
def bwP (c : Int → Int) (fe fn fu : Nat → Int) (mk : Int → Int) (D : Nat) : Prop := ∀ p : Int, 0 ≤ p → 0 ≤ spTy c D p → MkB fe fn fu c D p → (∀ i, p ≤ i → i < spTy c D p → (mk i ≠ 0 ↔ spX c D p i)) → ∃ k, bw c fe mk k p (spTy c D p)
theorem bw_br {N : Int} {c : Int → Int} {fe fn fu : Nat → Int} {mk : Int → Int} {D : Nat} (hN : 0 ≤ N) (hc : ∀ p, N ≤ p → c p = 0) (IH : bwP c fe fn fu mk D) : ∀ (r : Nat) (seen : List Int) (q : Int), 0 ≤ q → 0 ≤ spBr c (spTy c D) r seen q → (∀ x ∈ spBl c (spTy c D) r q, MkB fe fn fu c D x) → (∀ i, q ≤ i → i < spBr c (spTy c D) r seen q → (mk i ≠ 0 ↔ ∃ x ∈ spBl c (spTy c D) r q, spX c D x i)) → ∃ k, bw c fe mk k q (spBr c (spTy c D) r seen q)
  | 0, seen, q, q0, hb, _, _ => absurd (show 0 ≤ -1 - q from hb) (by omega)
  | r + 1, seen, q, q0, hb, hM, hm => by
    have ht : ∀ p, 0 ≤ p → 0 ≤ spTy c D p → p < spTy c D p := fun p p0 hp => (spTy_gt hc D p p0 hp).1
    have all := spBl_in ht (r + 1) seen q q0 hb
    rw [spBr_s] at hb hm ⊢
    by_cases c1 : c q = 85 ∨ c q ∈ seen
    · rw [if_pos c1] at hb; omega
    · rw [if_neg c1] at hb hm ⊢
      by_cases c2 : spTy c D q < 0
      · rw [if_pos c2] at hb; omega
      · rw [if_neg c2] at hb hm ⊢
        have gt := ht q q0 (by omega)
        rw [spBl_s] at hM hm all
        -- the branch itself
        have fst : ∀ E : Int, spTy c D q + 1 ≤ E → (∀ i, q ≤ i → i < E → (mk i ≠ 0 ↔ ∃ x ∈ q :: (if c (spTy c D q) = 44 then spBl c (spTy c D) r (spTy c D q + 1) else []), spX c D x i)) → (∀ x ∈ (if c (spTy c D q) = 44 then spBl c (spTy c D) r (spTy c D q + 1) else []), spTy c D q + 1 ≤ x ∧ 0 ≤ spTy c D x) → (∃ k, bw c fe mk k q (spTy c D q)) ∧ mk (spTy c D q) = 0 := fun E hE hm hr => by
          refine ⟨IH q q0 (by omega) (hM q List.mem_cons_self) (fun i i0 i1 => (hm i i0 (by omega)).trans ⟨fun ⟨x, hx, z⟩ => ?_, fun z => ⟨q, List.mem_cons_self, z⟩⟩), Decidable.byContradiction fun z => ?_⟩
          · rcases List.mem_cons.mp hx with e | e
            · rw [e] at z; exact z
            · have := hr x e
              have := spX_in hN hc D x i (by omega) this.2 z
              omega
          · obtain ⟨x, hx, y⟩ := (hm _ (by omega) (by omega)).mp z
            rcases List.mem_cons.mp hx with e | e
            · rw [e] at y
              have := spX_in hN hc D q _ q0 (by omega) y
              omega
            · have := hr x e
              have := spX_in hN hc D x _ (by omega) this.2 y
              omega
        by_cases c3 : seen ≠ [] ∧ c (spTy c D q) = 41
        · rw [if_pos c3] at hb hm ⊢
          obtain ⟨⟨k, hk⟩, m0⟩ := fst (spTy c D q + 1) (Int.le_refl _) hm (fun x hx => by rw [if_neg (by omega)] at hx; exact absurd hx List.not_mem_nil)
          exact ⟨_, bw_app _ _ _ _ _ hk (bw_1 (by omega) m0)⟩
        · rw [if_neg c3] at hb hm ⊢
          by_cases c4 : r = 0 ∨ c (spTy c D q) ≠ 44
          · rw [if_pos c4] at hb; omega
          · rw [if_neg c4] at hb hm ⊢
            have v44 : c (spTy c D q) = 44 := Decidable.byContradiction fun z => c4 (Or.inr z)
            rw [if_pos v44] at hM
            have rest := spBl_in ht r (c q :: seen) (spTy c D q + 1) (by omega) hb
            have Bq : spTy c D q + 1 ≤ spBr c (spTy c D) r (c q :: seen) (spTy c D q + 1) := by
              obtain ⟨r', hr'⟩ : ∃ r', r = r' + 1 := ⟨r - 1, by omega⟩
              have := rest (spTy c D q + 1) (by rw [hr', spBl_s]; exact List.mem_cons_self)
              have := ht _ (by omega) this.2.1
              omega
            obtain ⟨⟨k, hk⟩, m0⟩ := fst _ Bq hm (fun x hx => by rw [if_pos v44] at hx; exact ⟨(rest x hx).1, (rest x hx).2.1⟩)
            obtain ⟨j, hj⟩ := bw_br hN hc IH r (c q :: seen) (spTy c D q + 1) (by omega) hb (fun x hx => hM x (List.mem_cons_of_mem _ hx)) (fun i i0 i1 => (hm i (by omega) i1).trans ⟨fun ⟨x, hx, z⟩ => by
              rw [if_pos v44] at hx
              rcases List.mem_cons.mp hx with e | e
              · rw [e] at z
                have := spX_in hN hc D q _ q0 (by omega) z
                omega
              · exact ⟨x, e, z⟩, fun ⟨x, hx, z⟩ => ⟨x, by rw [if_pos v44]; exact List.mem_cons_of_mem _ hx, z⟩⟩)
            exact ⟨_, bw_app _ _ _ _ _ hk (bw_app _ _ _ _ _ (bw_1 (by omega) m0) hj)⟩
theorem fdX_in {N : Int} {c : Int → Int} {D : Nat} {x i : Int} (hN : 0 ≤ N) (hc : ∀ p, N ≤ p → c p = 0) (x0 : 0 ≤ x) (hT : 0 ≤ spTy c D (x + 2)) (hF : 0 ≤ spFe c (spTy c D) (spVal c c false D) x) (h : fdX c D x i) : x + 2 ≤ i ∧ i < spFe c (spTy c D) (spVal c c false D) x := by
  have g1 := spFe_ge hN hc hT hF
  have g2 := (spTy_gt hc D (x + 2) (by omega) hT).1
  rcases h with h | ⟨h1, h2, h3⟩
  · have := spX_in hN hc D (x + 2) i (by omega) hT h
    omega
  · omega
theorem bw_fd {N : Int} {c : Int → Int} {fe fn fu : Nat → Int} {mk : Int → Int} {D : Nat} (hN : 0 ≤ N) (hc : ∀ p, N ≤ p → c p = 0) (IH : bwP c fe fn fu mk D) : ∀ (r : Nat) (seen : List Int) (q : Int), 0 ≤ q → 0 ≤ spFd c (spTy c D) (spVal c c false D) r seen q → (∀ x ∈ spFl c (spTy c D) (spVal c c false D) r q, MkB fe fn fu c D (x + 2) ∧ MkD fe fu c D x) → (∀ i, q ≤ i → i < spFd c (spTy c D) (spVal c c false D) r seen q → (mk i ≠ 0 ↔ ∃ x ∈ spFl c (spTy c D) (spVal c c false D) r q, fdX c D x i)) → ∃ k, bw c fe mk k q (spFd c (spTy c D) (spVal c c false D) r seen q)
  | 0, seen, q, q0, hb, _, _ => absurd (show 0 ≤ -1 - q from hb) (by omega)
  | r + 1, seen, q, q0, hb, hM, hm => by
    have ht : ∀ p, 0 ≤ p → 0 ≤ spTy c D p → p < spTy c D p := fun p p0 hp => (spTy_gt hc D p p0 hp).1
    have hl : ∀ t p, 0 ≤ p → 0 ≤ spVal c c false D t p → p < spVal c c false D t p := fun t p p0 hp => (spVal_gt' hc D t p p0 hp hN).1
    rw [spFd_s] at hb hm ⊢
    by_cases c1 : ¬ isSm (c q) ∨ c q ∈ seen
    · rw [if_pos c1] at hb; omega
    · rw [if_neg c1] at hb hm ⊢
      have sm : isSm (c q) := Decidable.byContradiction fun z => c1 (Or.inl z)
      by_cases c2 : c (q + 1) ≠ 58
      · rw [if_pos c2] at hb; omega
      · rw [if_neg c2] at hb hm ⊢
        have c2 : c (q + 1) = 58 := Decidable.not_not.mp c2
        by_cases c3 : spTy c D (q + 2) < 0
        · rw [if_pos c3] at hb; omega
        · rw [if_neg c3] at hb hm ⊢
          have gt := ht (q + 2) (by omega) (by omega)
          by_cases c4 : spFe c (spTy c D) (spVal c c false D) q < 0
          · rw [if_pos c4] at hb; omega
          · rw [if_neg c4] at hb hm ⊢
            have ge := spFe_ge hN hc (x := q) (D := D) (by omega) (by omega)
            rw [spFl_s] at hM hm
            obtain ⟨M1, M2⟩ := hM q List.mem_cons_self
            -- the field itself
            have fst : ∀ E : Int, spFe c (spTy c D) (spVal c c false D) q + 1 ≤ E → (∀ i, q ≤ i → i < E → (mk i ≠ 0 ↔ ∃ x ∈ q :: (if c (spFe c (spTy c D) (spVal c c false D) q) = 44 then spFl c (spTy c D) (spVal c c false D) r (spFe c (spTy c D) (spVal c c false D) q + 1) else []), fdX c D x i)) → (∀ x ∈ (if c (spFe c (spTy c D) (spVal c c false D) q) = 44 then spFl c (spTy c D) (spVal c c false D) r (spFe c (spTy c D) (spVal c c false D) q + 1) else []), spFe c (spTy c D) (spVal c c false D) q + 1 ≤ x ∧ 0 ≤ spTy c D (x + 2) ∧ 0 ≤ spFe c (spTy c D) (spVal c c false D) x) → (∃ k, bw c fe mk k q (spFe c (spTy c D) (spVal c c false D) q)) ∧ mk (spFe c (spTy c D) (spVal c c false D) q) = 0 := fun E hE hm hr => by
              have hm' : ∀ i, q ≤ i → i ≤ spFe c (spTy c D) (spVal c c false D) q → (mk i ≠ 0 ↔ fdX c D q i) := fun i i0 i1 => (hm i i0 (by omega)).trans ⟨fun ⟨x, hx, z⟩ => by
                rcases List.mem_cons.mp hx with e | e
                · rw [e] at z; exact z
                · have w := hr x e
                  have := fdX_in hN hc (by omega) w.2.1 w.2.2 z
                  omega, fun z => ⟨q, List.mem_cons_self, z⟩⟩
              have z0 : ∀ i, q ≤ i → i ≤ spFe c (spTy c D) (spVal c c false D) q → i < q + 2 ∨ i = spFe c (spTy c D) (spVal c c false D) q → mk i = 0 := fun i i0 i1 i2 => Decidable.byContradiction fun z => by
                have := fdX_in hN hc q0 (by omega) (by omega) ((hm' i i0 i1).mp z)
                omega
              refine ⟨?_, z0 _ (by omega) (Int.le_refl _) (Or.inr rfl)⟩
              obtain ⟨k, hk⟩ := IH (q + 2) (by omega) (by omega) M1 (fun i i0 i1 => (hm' i (by omega) (by omega)).trans ⟨fun z => by
                rcases z with z | ⟨z1, z2, z3⟩
                · exact z
                · omega, fun z => Or.inl z⟩)
              have a1 : bw c fe mk 1 q (q + 1) := bw_1 (by omega) (z0 q (by omega) (by omega) (Or.inl (by omega)))
              have a2 : bw c fe mk 1 (q + 1) (q + 1 + 1) := bw_1 (by omega) (z0 (q + 1) (by omega) (by omega) (Or.inl (by omega)))
              rw [show q + 1 + 1 = q + 2 by omega] at a2
              have a3 := bw_app _ _ _ _ _ a1 (bw_app _ _ _ _ _ a2 hk)
              by_cases c5 : c (spTy c D (q + 2)) = 61
              · have ef := spFe_n c5
                obtain ⟨d1, -⟩ := M2 c5
                have g5 := ge.2 c5
                have a4 : bw c fe mk 1 (spTy c D (q + 2)) (spFe c (spTy c D) (spVal c c false D) q) := by
                  rw [← ef] at d1
                  exact Or.inr ⟨by omega, c5, by omega, by omega, fun i i0 i1 => (hm' i (by omega) (by omega)).mpr (Or.inr ⟨c5, i0, by omega⟩), d1⟩
                exact ⟨_, bw_app _ _ _ _ _ a3 a4⟩
              · rw [spFe_o c5]
                exact ⟨_, a3⟩
            by_cases c5 : c (spFe c (spTy c D) (spVal c c false D) q) = 41
            · rw [if_pos c5] at hb hm ⊢
              obtain ⟨⟨k, hk⟩, m0⟩ := fst _ (Int.le_refl _) hm (fun x hx => by rw [if_neg (by omega)] at hx; exact absurd hx List.not_mem_nil)
              exact ⟨_, bw_app _ _ _ _ _ hk (bw_1 (by omega) m0)⟩
            · rw [if_neg c5] at hb hm ⊢
              by_cases c6 : r = 0 ∨ c (spFe c (spTy c D) (spVal c c false D) q) ≠ 44
              · rw [if_pos c6] at hb; omega
              · rw [if_neg c6] at hb hm ⊢
                have v44 : c (spFe c (spTy c D) (spVal c c false D) q) = 44 := Decidable.byContradiction fun z => c6 (Or.inr z)
                rw [if_pos v44] at hM
                have rest := spFl_in ht hl r (c q :: seen) (spFe c (spTy c D) (spVal c c false D) q + 1) (by omega) hb
                have Bq : spFe c (spTy c D) (spVal c c false D) q + 1 ≤ spFd c (spTy c D) (spVal c c false D) r (c q :: seen) (spFe c (spTy c D) (spVal c c false D) q + 1) := by
                  obtain ⟨r', hr'⟩ : ∃ r', r = r' + 1 := ⟨r - 1, by omega⟩
                  have w := rest (spFe c (spTy c D) (spVal c c false D) q + 1) (by rw [hr', spFl_s]; exact List.mem_cons_self)
                  have w1 := ht _ (by omega) w.2.1
                  have w2 := (spFe_ge hN hc w.2.1 w.2.2.2.2.1).1
                  omega
                obtain ⟨⟨k, hk⟩, m0⟩ := fst _ Bq hm (fun x hx => by rw [if_pos v44] at hx; exact ⟨(rest x hx).1, (rest x hx).2.1, (rest x hx).2.2.2.2.1⟩)
                obtain ⟨j, hj⟩ := bw_fd hN hc IH r (c q :: seen) (spFe c (spTy c D) (spVal c c false D) q + 1) (by omega) hb (fun x hx => hM x (List.mem_cons_of_mem _ hx)) (fun i i0 i1 => (hm i (by omega) i1).trans ⟨fun ⟨x, hx, z⟩ => by
                  rw [if_pos v44] at hx
                  rcases List.mem_cons.mp hx with e | e
                  · rw [e] at z
                    have := fdX_in hN hc q0 (by omega) (by omega) z
                    omega
                  · exact ⟨x, e, z⟩, fun ⟨x, hx, z⟩ => ⟨x, by rw [if_pos v44]; exact List.mem_cons_of_mem _ hx, z⟩⟩)
                exact ⟨_, bw_app _ _ _ _ _ hk (bw_app _ _ _ _ _ (bw_1 (by omega) m0) hj)⟩
/-- copyBareTo walks over all that is not marked -/
theorem bw_all {N : Int} {c : Int → Int} {fe fn fu : Nat → Int} {mk : Int → Int} (hN : 0 ≤ N) (hc : ∀ p, N ≤ p → c p = 0) : ∀ D : Nat, bwP c fe fn fu mk D
  | 0 => fun p p0 hT M hm => by
    rcases spTy_c 0 p p0 hT with h | h | h
    · rw [spTy_pl h]
      exact ⟨_, bw_1 (by omega) (Decidable.byContradiction fun z => spX_n (by omega) ((hm p (Int.le_refl _) (by rw [spTy_pl h]; omega)).mp z))⟩
    · rw [spTy_E h.1] at hm ⊢
      exact bw_E p0 h.1 h.2 M hm
    · exact absurd rfl h.1
  | D + 1 => fun p p0 hT M hm => by
    rcases spTy_c (D + 1) p p0 hT with h | h | ⟨_, h | h | h⟩
    · rw [spTy_pl h]
      exact ⟨_, bw_1 (by omega) (Decidable.byContradiction fun z => spX_n (by omega) ((hm p (Int.le_refl _) (by rw [spTy_pl h]; omega)).mp z))⟩
    · rw [spTy_E h.1] at hm ⊢
      exact bw_E p0 h.1 h.2 (MkB_E M) hm
    · obtain ⟨-, M1, -, -⟩ := M
      rw [spTy_A h] at hT hm ⊢
      have gt := (spTy_gt hc D (p + 1) (by omega) hT).1
      obtain ⟨k, hk⟩ := bw_all hN hc D (p + 1) (by omega) hT (M1 h).2 (fun i i0 i1 => (hm i (by omega) i1).trans (spX_A h))
      exact ⟨_, bw_app _ _ _ _ _ (bw_1 (by omega) (Decidable.byContradiction fun z => by have := spX_in hN hc D (p + 1) p (by omega) hT ((spX_A h).mp ((hm p (Int.le_refl _) (by omega)).mp z)); omega)) hk⟩
    · obtain ⟨-, -, M1, -⟩ := M
      obtain ⟨u1, u2, u3⟩ := spTy_U1 p0 hT h
      obtain ⟨⟨l, hl⟩, -, u⟩ := spPt_U hc p0 hT h
      have gt := (spTy_gt hc (D + 1) p p0 hT).1
      have v := u (p + 2) (by rw [hl]; exact List.mem_cons_self)
      have v2 := (spTy_gt hc D (p + 2) (by omega) v.2.1).1
      have z0 : ∀ i, p ≤ i → i < p + 2 → mk i = 0 := fun i i0 i1 => Decidable.byContradiction fun z => by
        obtain ⟨x, hx, y⟩ := (spX_U h).mp ((hm i i0 (by omega)).mp z)
        have := u x hx
        have := spX_in hN hc D x i (by omega) this.2.1 y
        omega
      have hm' : ∀ i, p ≤ i → i < spTy c (D + 1) p → (mk i ≠ 0 ↔ ∃ x ∈ spPt c (D + 1) p, spX c D x i) := fun i i0 i1 => (hm i i0 i1).trans (spX_U h)
      have M2 : ∀ x ∈ spPt c (D + 1) p, MkB fe fn fu c D x := fun x hx => ((M1 h).2 x hx).2
      rw [u3] at hm' M2
      rw [u2] at hm' hT ⊢
      obtain ⟨k, hk⟩ := bw_br hN hc (bw_all hN hc D) 4 [] (p + 2) (by omega) hT M2 (fun i i0 i1 => hm' i (by omega) i1)
      have a1 : bw c fe mk 1 p (p + 1) := bw_1 (by omega) (z0 p (by omega) (by omega))
      have a2 : bw c fe mk 1 (p + 1) (p + 1 + 1) := bw_1 (by omega) (z0 (p + 1) (by omega) (by omega))
      rw [show p + 1 + 1 = p + 2 by omega] at a2
      exact ⟨_, bw_app _ _ _ _ _ a1 (bw_app _ _ _ _ _ a2 hk)⟩
    · obtain ⟨-, -, -, M1⟩ := M
      obtain ⟨u1, u2, u3⟩ := spTy_R1 p0 hT h
      obtain ⟨⟨l, hl⟩, -, u⟩ := spPt_R hN hc p0 hT h
      have gt := (spTy_gt hc (D + 1) p p0 hT).1
      have v := u (p + 2) (by rw [hl]; exact List.mem_cons_self)
      have v2 := (spTy_gt hc D (p + 2 + 2) (by omega) v.2.1).1
      have v3 := (spFe_ge hN hc v.2.1 v.2.2.2.2.1).1
      have z0 : ∀ i, p ≤ i → i < p + 2 → mk i = 0 := fun i i0 i1 => Decidable.byContradiction fun z => by
        obtain ⟨x, hx, y⟩ := (spX_R h).mp ((hm i i0 (by omega)).mp z)
        have w := u x hx
        have := fdX_in hN hc (by omega) w.2.1 w.2.2.2.2.1 y
        omega
      have hm' : ∀ i, p ≤ i → i < spTy c (D + 1) p → (mk i ≠ 0 ↔ ∃ x ∈ spPt c (D + 1) p, fdX c D x i) := fun i i0 i1 => (hm i i0 i1).trans (spX_R h)
      have M2 : ∀ x ∈ spPt c (D + 1) p, MkB fe fn fu c D (x + 2) ∧ MkD fe fu c D x := fun x hx => ((M1 h).2 x hx).2
      rw [u3] at hm' M2
      rw [u2] at hm' hT ⊢
      obtain ⟨k, hk⟩ := bw_fd hN hc (bw_all hN hc D) 6 [] (p + 2) (by omega) hT M2 (fun i i0 i1 => hm' i (by omega) i1)
      have a1 : bw c fe mk 1 p (p + 1) := bw_1 (by omega) (z0 p (by omega) (by omega))
      have a2 : bw c fe mk 1 (p + 1) (p + 1 + 1) := bw_1 (by omega) (z0 (p + 1) (by omega) (by omega))
      rw [show p + 1 + 1 = p + 2 by omega] at a2
      exact ⟨_, bw_app _ _ _ _ _ a1 (bw_app _ _ _ _ _ a2 hk)⟩
