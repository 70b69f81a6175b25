/-- what grow did -/
theorem grS_f {s : mS} {t n x y o : Int} (n0 : 0 ≤ n) (hp : 0 < o → 0 ≤ s.2.2.1 27 (o - 1).toNat ∧ s.2.2.1 27 (o - 1).toNat < n ∧ (s.2.2.1 20 (s.2.2.1 27 (o - 1).toNat).toNat ≠ 0 → 0 ≤ s.2.2.1 28 (o - 1).toNat ∧ s.2.2.1 28 (o - 1).toNat < n)) :
    (grS s t n x y o).1 = s.1 ∧ (grS s t n x y o).2.2.2 = s.2.2.2 ∧ (∀ k, k < 16 ∨ 24 < k → k ≠ 28 → (grS s t n x y o).2.2.1 k = s.2.2.1 k) ∧ (∀ i : Nat, (grS s t n x y o).2.2.1 16 i = if i = t.toNat then s.2.2.1 16 t.toNat + 1 else s.2.2.1 16 i)
    ∧ (∀ k, k = 17 ∨ k = 21 ∨ k = 22 ∨ k = 23 ∨ k = 24 → ∀ i : Nat, i ≠ n.toNat → (grS s t n x y o).2.2.1 k i = s.2.2.1 k i)
    ∧ (∀ i : Nat, i ≠ n.toNat → (grS s t n x y o).2.2.1 18 i = if 0 < o ∧ s.2.2.1 20 (s.2.2.1 27 (o - 1).toNat).toNat = 0 ∧ i = (s.2.2.1 27 (o - 1).toNat).toNat then n else s.2.2.1 18 i)
    ∧ (∀ i : Nat, i ≠ n.toNat → (grS s t n x y o).2.2.1 19 i = if 0 < o ∧ s.2.2.1 20 (s.2.2.1 27 (o - 1).toNat).toNat ≠ 0 ∧ i = (s.2.2.1 28 (o - 1).toNat).toNat then n else s.2.2.1 19 i)
    ∧ (∀ i : Nat, i ≠ n.toNat → (grS s t n x y o).2.2.1 20 i = if 0 < o ∧ i = (s.2.2.1 27 (o - 1).toNat).toNat then s.2.2.1 20 i + 1 else s.2.2.1 20 i)
    ∧ (∀ i : Nat, (grS s t n x y o).2.2.1 28 i = if 0 < o ∧ i = (o - 1).toNat then n else s.2.2.1 28 i)
    ∧ ((grS s t n x y o).2.2.1 17 n.toNat = x ∧ (grS s t n x y o).2.2.1 18 n.toNat = -1 ∧ (grS s t n x y o).2.2.1 19 n.toNat = -1 ∧ (grS s t n x y o).2.2.1 20 n.toNat = 0 ∧ (grS s t n x y o).2.2.1 21 n.toNat = y ∧ (grS s t n x y o).2.2.1 22 n.toNat = -1 ∧ (grS s t n x y o).2.2.1 23 n.toNat = -1 ∧ (grS s t n x y o).2.2.1 24 n.toNat = -1) := by
  have G : ∀ k i, (grN s t n x y).2.2.1 k i = if k = 24 ∧ i = n.toNat then -1 else if k = 23 ∧ i = n.toNat then -1 else if k = 22 ∧ i = n.toNat then -1 else if k = 21 ∧ i = n.toNat then y else if k = 20 ∧ i = n.toNat then 0 else if k = 19 ∧ i = n.toNat then -1 else if k = 18 ∧ i = n.toNat then -1 else if k = 17 ∧ i = n.toNat then x else if k = 16 ∧ i = t.toNat then s.2.2.1 16 t.toNat + 1 else s.2.2.1 k i := fun k i => rfl
  unfold grS
  by_cases c : o ≤ 0
  · rw [if_pos c]
    refine ⟨rfl, rfl, fun k hk _ => ?_, fun i => ?_, fun k hk i hi => ?_, fun i hi => ?_, fun i hi => ?_, fun i hi => ?_, fun i => ?_, ?_⟩
    · funext i
      rw [G, if_neg (by omega), if_neg (by omega), if_neg (by omega), if_neg (by omega), if_neg (by omega), if_neg (by omega), if_neg (by omega), if_neg (by omega), if_neg (by omega)]
    · rw [G]; simp only [show ¬ (16 : Nat) = 24 by decide, show ¬ (16 : Nat) = 23 by decide, show ¬ (16 : Nat) = 22 by decide, show ¬ (16 : Nat) = 21 by decide, show ¬ (16 : Nat) = 20 by decide, show ¬ (16 : Nat) = 19 by decide, show ¬ (16 : Nat) = 18 by decide, show ¬ (16 : Nat) = 17 by decide, false_and, if_false, true_and]
    · rw [G, if_neg (fun z => hi z.2), if_neg (fun z => hi z.2), if_neg (fun z => hi z.2), if_neg (fun z => hi z.2), if_neg (fun z => hi z.2), if_neg (fun z => hi z.2), if_neg (fun z => hi z.2), if_neg (fun z => hi z.2), if_neg (by omega)]
    · rw [G, if_neg (fun z => hi z.2), if_neg (fun z => hi z.2), if_neg (fun z => hi z.2), if_neg (fun z => hi z.2), if_neg (fun z => hi z.2), if_neg (fun z => hi z.2), if_neg (fun z => hi z.2), if_neg (fun z => hi z.2), if_neg (by omega), if_neg (by omega)]
    · rw [G, if_neg (fun z => hi z.2), if_neg (fun z => hi z.2), if_neg (fun z => hi z.2), if_neg (fun z => hi z.2), if_neg (fun z => hi z.2), if_neg (fun z => hi z.2), if_neg (fun z => hi z.2), if_neg (fun z => hi z.2), if_neg (by omega), if_neg (by omega)]
    · rw [G, if_neg (fun z => hi z.2), if_neg (fun z => hi z.2), if_neg (fun z => hi z.2), if_neg (fun z => hi z.2), if_neg (fun z => hi z.2), if_neg (fun z => hi z.2), if_neg (fun z => hi z.2), if_neg (fun z => hi z.2), if_neg (by omega), if_neg (by omega)]
    · rw [if_neg (by omega)]; rfl
    · exact ⟨by rw [G]; simp, by rw [G]; simp, by rw [G]; simp, by rw [G]; simp, by rw [G]; simp, by rw [G]; simp, by rw [G]; simp, by rw [G]; simp⟩
  · rw [if_neg c]
    obtain ⟨p1, p2, p3⟩ := hp (by omega)
    generalize hpp : s.2.2.1 27 (o - 1).toNat = p at *
    have g20 : (grN s t n x y).2.2.1 20 p.toNat = s.2.2.1 20 p.toNat := by
      rw [G]; simp [show ¬ p.toNat = n.toNat by omega]
    have g28 : (grN s t n x y).2.2.1 28 = s.2.2.1 28 := rfl
    have Q : ∀ k i, (grP (grN s t n x y) n o p).2.2.1 k i = if k = 20 ∧ i = p.toNat then s.2.2.1 20 p.toNat + 1 else if k = 28 ∧ i = (o - 1).toNat then n else if s.2.2.1 20 p.toNat = 0 then (if k = 18 ∧ i = p.toNat then n else (grN s t n x y).2.2.1 k i) else (if k = 19 ∧ i = (s.2.2.1 28 (o - 1).toNat).toNat then n else (grN s t n x y).2.2.1 k i) := fun k i => by
      unfold grP
      rw [g20, g28, mU_3, mU_3]
      split
      · rfl
      · split
        · rfl
        · split
          · rw [mU_3]
          · rw [mU_3]
    have G1 : (grN s t n x y).1 = s.1 := rfl
    have G2 : (grN s t n x y).2.2.2 = s.2.2.2 := rfl
    have Q1 : (grP (grN s t n x y) n o p).1 = s.1 := by
      unfold grP
      rw [mU_1, mU_1]
      split
      · rw [mU_1, G1]
      · rw [mU_1, G1]
    have Q2 : (grP (grN s t n x y) n o p).2.2.2 = s.2.2.2 := by
      unfold grP
      rw [mU_4, mU_4]
      split
      · rw [mU_4, G2]
      · rw [mU_4, G2]
    refine ⟨Q1, Q2, fun k hk k28 => ?_, fun i => ?_, fun k hk i hi => ?_, fun i hi => ?_, fun i hi => ?_, fun i hi => ?_, fun i => ?_, ?_⟩
    · funext i
      rw [Q, if_neg (by omega), if_neg (by omega), if_neg (show ¬ (k = 18 ∧ i = p.toNat) by omega), if_neg (show ¬ (k = 19 ∧ i = (s.2.2.1 28 (o - 1).toNat).toNat) by omega)]
      have : (grN s t n x y).2.2.1 k i = s.2.2.1 k i := by
        rw [G, if_neg (by omega), if_neg (by omega), if_neg (by omega), if_neg (by omega), if_neg (by omega), if_neg (by omega), if_neg (by omega), if_neg (by omega), if_neg (by omega)]
      rw [this]; split <;> rfl
    · rw [Q, if_neg (fun z => absurd z.1 (by decide)), if_neg (fun z => absurd z.1 (by decide)), if_neg (show ¬ ((16 : Nat) = 18 ∧ i = p.toNat) from fun z => absurd z.1 (by decide)), if_neg (show ¬ ((16 : Nat) = 19 ∧ i = (s.2.2.1 28 (o - 1).toNat).toNat) from fun z => absurd z.1 (by decide))]
      have : (grN s t n x y).2.2.1 16 i = if i = t.toNat then s.2.2.1 16 t.toNat + 1 else s.2.2.1 16 i := by rw [G]; simp
      rw [this]; split <;> rfl
    · have : (grN s t n x y).2.2.1 k i = s.2.2.1 k i := by
        rw [G, if_neg (fun z => hi z.2), if_neg (fun z => hi z.2), if_neg (fun z => hi z.2), if_neg (fun z => hi z.2), if_neg (fun z => hi z.2), if_neg (fun z => hi z.2), if_neg (fun z => hi z.2), if_neg (fun z => hi z.2), if_neg (by omega)]
      rw [Q, if_neg (by omega), if_neg (by omega), if_neg (show ¬ (k = 18 ∧ i = p.toNat) by omega), if_neg (show ¬ (k = 19 ∧ i = (s.2.2.1 28 (o - 1).toNat).toNat) by omega), this]
      split <;> rfl
    · have : (grN s t n x y).2.2.1 18 i = s.2.2.1 18 i := by
        rw [G, if_neg (fun z => hi z.2), if_neg (fun z => hi z.2), if_neg (fun z => hi z.2), if_neg (fun z => hi z.2), if_neg (fun z => hi z.2), if_neg (fun z => hi z.2), if_neg (fun z => hi z.2), if_neg (fun z => hi z.2), if_neg (by omega)]
      rw [Q, if_neg (by omega), if_neg (by omega), if_neg (show ¬ ((18 : Nat) = 19 ∧ i = (s.2.2.1 28 (o - 1).toNat).toNat) by omega), this]
      by_cases z : s.2.2.1 20 p.toNat = 0
      · rw [if_pos z]
        by_cases w : i = p.toNat
        · rw [if_pos ⟨rfl, w⟩, if_pos ⟨by omega, z, w⟩]
        · rw [if_neg (fun q => w q.2), if_neg (fun q => w q.2.2)]
      · rw [if_neg z, if_neg (fun q => z q.2.1)]
    · have : (grN s t n x y).2.2.1 19 i = s.2.2.1 19 i := by
        rw [G, if_neg (fun z => hi z.2), if_neg (fun z => hi z.2), if_neg (fun z => hi z.2), if_neg (fun z => hi z.2), if_neg (fun z => hi z.2), if_neg (fun z => hi z.2), if_neg (fun z => hi z.2), if_neg (fun z => hi z.2), if_neg (by omega)]
      rw [Q, if_neg (by omega), if_neg (by omega), if_neg (show ¬ ((19 : Nat) = 18 ∧ i = p.toNat) by omega), this]
      by_cases z : s.2.2.1 20 p.toNat = 0
      · rw [if_pos z, if_neg (fun q => q.2.1 z)]
      · rw [if_neg z]
        by_cases w : i = (s.2.2.1 28 (o - 1).toNat).toNat
        · rw [if_pos ⟨rfl, w⟩, if_pos ⟨by omega, z, w⟩]
        · rw [if_neg (fun q => w q.2), if_neg (fun q => w q.2.2)]
    · have : (grN s t n x y).2.2.1 20 i = s.2.2.1 20 i := by
        rw [G, if_neg (fun z => hi z.2), if_neg (fun z => hi z.2), if_neg (fun z => hi z.2), if_neg (fun z => hi z.2), if_neg (fun z => hi z.2), if_neg (fun z => hi z.2), if_neg (fun z => hi z.2), if_neg (fun z => hi z.2), if_neg (by omega)]
      rw [Q]
      by_cases w : i = p.toNat
      · rw [if_pos ⟨rfl, w⟩, if_pos ⟨by omega, w⟩, w]
      · rw [if_neg (fun q => w q.2), if_neg (fun q => absurd q.1 (by decide)), if_neg (show ¬ ((20 : Nat) = 18 ∧ i = p.toNat) by omega), if_neg (show ¬ ((20 : Nat) = 19 ∧ i = (s.2.2.1 28 (o - 1).toNat).toNat) by omega), if_neg (show ¬ (0 < o ∧ i = p.toNat) from fun q => w q.2), this]
        split <;> rfl
    · rw [Q, if_neg (fun q => absurd q.1 (by decide))]
      by_cases w : i = (o - 1).toNat
      · rw [if_pos ⟨rfl, w⟩, if_pos ⟨by omega, w⟩]
      · rw [if_neg (fun q => w q.2), if_neg (show ¬ ((28 : Nat) = 18 ∧ i = p.toNat) by omega), if_neg (show ¬ ((28 : Nat) = 19 ∧ i = (s.2.2.1 28 (o - 1).toNat).toNat) by omega), if_neg (show ¬ (0 < o ∧ i = (o - 1).toNat) from fun q => w q.2)]
        split <;> rfl
    · have ne : ¬ n.toNat = p.toNat := by omega
      have ne2 : s.2.2.1 20 p.toNat ≠ 0 → ¬ n.toNat = (s.2.2.1 28 (o - 1).toNat).toNat := fun z => by have := p3 z; omega
      have fin : ∀ k v, k < 28 → (grN s t n x y).2.2.1 k n.toNat = v → (grP (grN s t n x y) n o p).2.2.1 k n.toNat = v := fun k v hk hv => by
        rw [Q, if_neg (fun q => ne q.2), if_neg (fun q => by omega)]
        split
        · rw [if_neg (fun q => ne q.2)]; exact hv
        · rename_i z
          rw [if_neg (fun q => ne2 z q.2)]; exact hv
      exact ⟨fin 17 _ (by decide) (by rw [G]; simp), fin 18 _ (by decide) (by rw [G]; simp), fin 19 _ (by decide) (by rw [G]; simp), fin 20 _ (by decide) (by rw [G]; simp), fin 21 _ (by decide) (by rw [G]; simp), fin 22 _ (by decide) (by rw [G]; simp), fin 23 _ (by decide) (by rw [G]; simp), fin 24 _ (by decide) (by rw [G]; simp)⟩
