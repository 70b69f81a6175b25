/-- the places of a literal at which a U begins -/
def spU1 (c v : Int → Int) (val : Bool) (pt : Int → List Int) (f : Int → Int → Int) (g : Int → Int → List Int) (t q : Int) : List Int :=
  if c t = 65 then (if v (q + 1) = 93 then [] else spElA v (f (t + 1)) (g (t + 1)) (mst val) (q + 1))
  else if c t = 85 then (if val then g ((pt t).getD (v q - 48).toNat 0) (q + 2) else q :: g (t + 2) q)
  else if c t = 82 then spFsA f g (pt t) (q + 1)
  else []
def spU (c v : Int → Int) (val : Bool) : Nat → Int → Int → List Int
  | 0 => fun _ _ => []
  | D + 1 => spU1 c v val (spPt c (D + 1)) (spVal c v val D) (spU c v val D)
theorem spU_s (c v : Int → Int) (val : Bool) (D : Nat) : spU c v val (D + 1) = spU1 c v val (spPt c (D + 1)) (spVal c v val D) (spU c v val D) := rfl
def unE (s s' : cS) (L : List Int) : Prop := ∀ i : Nat, s'.2.2.2.1 i = if (i : Int) ∈ L then 1 else s.2.2.2.1 i
theorem unE_0 {s s' : cS} (h : s'.2.2.2.1 = s.2.2.2.1) : unE s s' [] := fun i => by rw [if_neg (List.not_mem_nil), h]
theorem unE.trans {s s1 s2 : cS} {l k : List Int} (h : unE s s1 l) (h1 : unE s1 s2 k) : unE s s2 (l ++ k) := fun i => by
  rw [h1 i, h i]
  by_cases a : (i : Int) ∈ k
  · rw [if_pos a, if_pos (List.mem_append.mpr (Or.inr a))]
  · rw [if_neg a]
    by_cases b : (i : Int) ∈ l
    · rw [if_pos b, if_pos (List.mem_append.mpr (Or.inl b))]
    · rw [if_neg b, if_neg (fun z => (List.mem_append.mp z).elim b a)]
/-- the nexts marks go along the list -/
def nxC (nx : Nat → Int) : List Int → Prop
  | [] => False
  | [x] => nx x.toNat = -1
  | x :: y :: l => nx x.toNat = y ∧ nxC nx (y :: l)
def MkN (nx : Nat → Int) (c : Int → Int) : Nat → Int → Prop
  | 0, _ => True
  | D + 1, t => (c t = 65 → MkN nx c D (t + 1)) ∧ (c t = 85 → nxC nx (spPt c (D + 1) t) ∧ ∀ x ∈ spPt c (D + 1) t, MkN nx c D x) ∧ (c t = 82 → nxC nx (spPt c (D + 1) t) ∧ ∀ x ∈ spPt c (D + 1) t, MkN nx c D (x + 2))
theorem spBl_in {c ty : Int → Int} (ht : ∀ p, 0 ≤ p → 0 ≤ ty p → p < ty p) : ∀ (k : Nat) (seen : List Int) (q : Int), 0 ≤ q → 0 ≤ spBr c ty k seen q → ∀ x ∈ spBl c ty k q, q ≤ x ∧ 0 ≤ ty x ∧ c x ≠ 85 ∧ ty x < spBr c ty k seen q
  | 0, _, q, q0, hb => absurd (show 0 ≤ -1 - q from hb) (by omega)
  | k + 1, seen, q, q0, hb => by
    rw [spBr_s] at hb ⊢
    by_cases c1 : c q = 85 ∨ c q ∈ seen
    · rw [if_pos c1] at hb; omega
    · rw [if_neg c1] at hb ⊢
      by_cases c2 : ty q < 0
      · rw [if_pos c2] at hb; omega
      · rw [if_neg c2] at hb ⊢
        have g := ht q q0 (by omega)
        intro x hx
        rw [spBl_s] at hx
        by_cases c3 : seen ≠ [] ∧ c (ty q) = 41
        · rw [if_pos c3] at hb ⊢
          rw [if_neg (by omega)] at hx
          rw [List.mem_singleton] at hx
          subst hx
          exact ⟨by omega, by omega, fun z => c1 (Or.inl z), by omega⟩
        · rw [if_neg c3] at hb ⊢
          by_cases c4 : k = 0 ∨ c (ty q) ≠ 44
          · rw [if_pos c4] at hb; omega
          · rw [if_neg c4] at hb ⊢
            rw [if_pos (by omega)] at hx
            have ih := spBl_in ht k (c q :: seen) (ty q + 1) (by omega) hb
            rcases List.mem_cons.mp hx with rfl | hx
            · have k1 : k ≠ 0 := by omega
              obtain ⟨k, rfl⟩ : ∃ j, k = j + 1 := ⟨k - 1, by omega⟩
              have h1 := ih (ty x + 1) (by rw [spBl_s]; exact List.mem_cons_self)
              have h2 := ht (ty x + 1) (by omega) h1.2.1
              exact ⟨by omega, by omega, fun z => c1 (Or.inl z), by omega⟩
            · obtain ⟨h1, h2, h3, h4⟩ := ih x hx
              exact ⟨by omega, h2, h3, h4⟩
theorem spFl_in {c ty : Int → Int} {lt : Int → Int → Int} (ht : ∀ p, 0 ≤ p → 0 ≤ ty p → p < ty p) (hl : ∀ t p, 0 ≤ p → 0 ≤ lt t p → p < lt t p) : ∀ (k : Nat) (seen : List Int) (q : Int), 0 ≤ q → 0 ≤ spFd c ty lt k seen q → ∀ x ∈ spFl c ty lt k q, q ≤ x ∧ 0 ≤ ty (x + 2) ∧ isSm (c x) ∧ c (x + 1) = 58 ∧ 0 ≤ spFe c ty lt x ∧ spFe c ty lt x < spFd c ty lt k seen q
  | 0, _, q, q0, hb => absurd (show 0 ≤ -1 - q from hb) (by omega)
  | k + 1, seen, q, q0, hb => by
    rw [spFd_s] at hb ⊢
    by_cases c1 : ¬ isSm (c q) ∨ c q ∈ seen
    · rw [if_pos c1] at hb; omega
    · rw [if_neg c1] at hb ⊢
      have c1' : isSm (c q) := Classical.byContradiction fun z => c1 (Or.inl z)
      by_cases c0 : c (q + 1) ≠ 58
      · rw [if_pos c0] at hb; omega
      · rw [if_neg c0] at hb ⊢
        by_cases c2 : ty (q + 2) < 0
        · rw [if_pos c2] at hb; omega
        · rw [if_neg c2] at hb ⊢
          by_cases c5 : spFe c ty lt q < 0
          · rw [if_pos c5] at hb; omega
          · rw [if_neg c5] at hb ⊢
            have g := ht (q + 2) (by omega) (by omega)
            have ge : ∀ y, 0 ≤ y → 0 ≤ ty (y + 2) → 0 ≤ spFe c ty lt y → y < spFe c ty lt y := by
              intro y y0 y1 y2
              have g1 := ht (y + 2) (by omega) y1
              unfold spFe at y2 ⊢
              by_cases z : c (ty (y + 2)) = 61
              · rw [if_pos z] at y2 ⊢
                have := hl _ _ (by omega) y2
                omega
              · rw [if_neg z] at y2 ⊢; omega
            have ge0 := ge q q0 (by omega) (by omega)
            intro x hx
            rw [spFl_s] at hx
            by_cases c3 : c (spFe c ty lt q) = 41
            · rw [if_pos c3]
              rw [if_neg (by omega)] at hx
              rw [List.mem_singleton] at hx
              subst hx
              exact ⟨by omega, by omega, c1', by omega, by omega, by omega⟩
            · rw [if_neg c3] at hb ⊢
              by_cases c4 : k = 0 ∨ c (spFe c ty lt q) ≠ 44
              · rw [if_pos c4] at hb; omega
              · rw [if_neg c4] at hb ⊢
                rw [if_pos (by omega)] at hx
                have ih := spFl_in ht hl k (c q :: seen) (spFe c ty lt q + 1) (by omega) hb
                rcases List.mem_cons.mp hx with rfl | hx
                · have k1 : k ≠ 0 := by omega
                  obtain ⟨k, rfl⟩ : ∃ j, k = j + 1 := ⟨k - 1, by omega⟩
                  have h1 := ih (spFe c ty lt x + 1) (by rw [spFl_s]; exact List.mem_cons_self)
                  have h2 := ge (spFe c ty lt x + 1) (by omega) h1.2.1 h1.2.2.2.2.1
                  exact ⟨by omega, by omega, c1', by omega, by omega, by omega⟩
                · obtain ⟨h1, h2, h3, h4, h5, h6⟩ := ih x hx
                  exact ⟨by omega, h2, h3, h4, h5, h6⟩
theorem spTy_c {c : Int → Int} : ∀ (D : Nat) (p : Int), 0 ≤ p → 0 ≤ spTy c D p → isPl (c p) ∨ (c p = 69 ∧ 0 ≤ spE c p) ∨ (D ≠ 0 ∧ isHo (c p)) := by
  intro D p p0 h
  cases D with
  | zero =>
    rw [spTy_0] at h
    unfold spT0 at h
    by_cases a : isPl (c p)
    · exact Or.inl a
    · rw [if_neg a] at h
      by_cases b : c p = 69
      · rw [if_pos b] at h; exact Or.inr (Or.inl ⟨b, h⟩)
      · rw [if_neg b] at h; omega
  | succ D =>
    rw [spTy_s] at h
    unfold spT1 at h
    by_cases a : isPl (c p)
    · exact Or.inl a
    · rw [if_neg a] at h
      by_cases b : c p = 69
      · rw [if_pos b] at h; exact Or.inr (Or.inl ⟨b, h⟩)
      · rw [if_neg b] at h
        refine Or.inr (Or.inr ⟨by omega, ?_⟩)
        by_cases d : c p = 65
        · exact Or.inl d
        · rw [if_neg d] at h
          by_cases e : c p = 85
          · exact Or.inr (Or.inl e)
          · rw [if_neg e] at h
            by_cases f : c p = 82
            · exact Or.inr (Or.inr f)
            · rw [if_neg f] at h; omega
theorem spTy_gt {N : Int} {c : Int → Int} (hc : ∀ p, N ≤ p → c p = 0) (D : Nat) (p : Int) (p0 : 0 ≤ p) (h : 0 ≤ spTy c D p) : p < spTy c D p ∧ spTy c D p ≤ N := by
  have := spTy_c D p p0 h
  have hn : p < N := Classical.byContradiction fun z => by have := hc p (by omega); omega
  have := spTy_b hc D p p0 (by omega)
  unfold bd at this
  omega
theorem spVal_gt {N : Int} {c v : Int → Int} {val : Bool} (hv : ∀ p, N ≤ p → v p = 0) (D : Nat) (t p : Int) (p0 : 0 ≤ p) (p1 : p ≤ N) (h : 0 ≤ spVal c v val D t p) : p < spVal c v val D t p ∧ spVal c v val D t p ≤ N := by
  have := spVal_b (c := c) (val := val) hv D t p p0 p1
  unfold bd at this
  omega
/-- the parts of a type that is read are types that are read -/
theorem spTy_U1 {c : Int → Int} {D : Nat} {t : Int} (t0 : 0 ≤ t) (h : 0 ≤ spTy c (D + 1) t) (hU : c t = 85) : c (t + 1) = 40 ∧ spTy c (D + 1) t = spBr c (spTy c D) 4 [] (t + 2) ∧ spPt c (D + 1) t = spBl c (spTy c D) 4 (t + 2) := by
  rw [spTy_s] at h ⊢
  unfold spT1 at h ⊢
  rw [if_neg (by omega), if_neg (by omega), if_neg (by omega), if_pos hU] at h ⊢
  rw [spPt_s]
  unfold spP1
  rw [if_pos hU]
  by_cases a : c (t + 1) = 40
  · rw [if_pos a]; exact ⟨a, rfl, rfl⟩
  · rw [if_neg a] at h; omega
theorem spTy_R1 {c : Int → Int} {D : Nat} {t : Int} (t0 : 0 ≤ t) (h : 0 ≤ spTy c (D + 1) t) (hR : c t = 82) : c (t + 1) = 40 ∧ spTy c (D + 1) t = spFd c (spTy c D) (spVal c c false D) 6 [] (t + 2) ∧ spPt c (D + 1) t = spFl c (spTy c D) (spVal c c false D) 6 (t + 2) := by
  rw [spTy_s] at h ⊢
  unfold spT1 at h ⊢
  rw [if_neg (show ¬ isPl (c t) from by omega), if_neg (show ¬ c t = 69 from by omega), if_neg (show ¬ c t = 65 from by omega), if_neg (show ¬ c t = 85 from by omega), if_pos hR] at h ⊢
  rw [spPt_s]
  unfold spP1
  rw [if_neg (show ¬ c t = 85 from by omega), if_pos hR]
  by_cases a : c (t + 1) = 40
  · rw [if_pos a]; exact ⟨a, rfl, rfl⟩
  · rw [if_neg a] at h; omega
theorem spVal_gt' {N : Int} {c v : Int → Int} {val : Bool} (hv : ∀ p, N ≤ p → v p = 0) (D : Nat) (t p : Int) (p0 : 0 ≤ p) (h : 0 ≤ spVal c v val D t p) (hN : 0 ≤ N) : p < spVal c v val D t p ∧ (p ≤ N → spVal c v val D t p ≤ N) := by
  by_cases p1 : p ≤ N
  · have := spVal_gt hv D t p p0 p1 h
    exact ⟨this.1, fun _ => this.2⟩
  · have := spVal_b (N := p) (c := c) (val := val) (fun r hr => hv r (by omega)) D t p p0 (Int.le_refl p)
    unfold bd at this
    omega
theorem spPt_U {N : Int} {c : Int → Int} {D : Nat} {t : Int} (hc : ∀ p, N ≤ p → c p = 0) (t0 : 0 ≤ t) (h : 0 ≤ spTy c (D + 1) t) (hU : c t = 85) : (∃ l, spPt c (D + 1) t = (t + 2) :: l) ∧ (spPt c (D + 1) t).length ≤ 4 ∧ ∀ x ∈ spPt c (D + 1) t, t + 2 ≤ x ∧ 0 ≤ spTy c D x ∧ c x ≠ 85 ∧ spTy c D x < spTy c (D + 1) t := by
  obtain ⟨a, b, e⟩ := spTy_U1 t0 h hU
  rw [e, b]
  rw [b] at h
  exact ⟨⟨_, rfl⟩, spBl_len _ _ 4 _, spBl_in (fun p p0 hp => (spTy_gt hc D p p0 hp).1) 4 [] (t + 2) (by omega) h⟩
theorem spPt_R {N : Int} {c : Int → Int} {D : Nat} {t : Int} (hN : 0 ≤ N) (hc : ∀ p, N ≤ p → c p = 0) (t0 : 0 ≤ t) (h : 0 ≤ spTy c (D + 1) t) (hR : c t = 82) : (∃ l, spPt c (D + 1) t = (t + 2) :: l) ∧ (spPt c (D + 1) t).length ≤ 6 ∧ ∀ x ∈ spPt c (D + 1) t, t + 2 ≤ x ∧ 0 ≤ spTy c D (x + 2) ∧ isSm (c x) ∧ c (x + 1) = 58 ∧ 0 ≤ spFe c (spTy c D) (spVal c c false D) x ∧ spFe c (spTy c D) (spVal c c false D) x < spTy c (D + 1) t := by
  obtain ⟨a, b, e⟩ := spTy_R1 t0 h hR
  rw [e, b]
  rw [b] at h
  exact ⟨⟨_, rfl⟩, spFl_len _ _ _ 6 _, spFl_in (fun p p0 hp => (spTy_gt hc D p p0 hp).1) (fun t p p0 hp => (spVal_gt' hc D t p p0 hp hN).1) 6 [] (t + 2) (by omega) h⟩
