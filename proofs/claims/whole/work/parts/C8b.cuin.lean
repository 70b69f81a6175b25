theorem spElA_in {v f : Int → Int} {u : Int → List Int} {N : Int} (hv : ∀ p, N ≤ p → v p = 0) (hf : ∀ q, 0 ≤ q → q ≤ N → bd N q (f q)) (hu : ∀ q, 0 ≤ q → q ≤ N → 0 ≤ f q → ∀ y ∈ u q, q ≤ y ∧ y < f q) : ∀ (k : Nat) (q : Int), 0 ≤ q → q ≤ N → 0 ≤ spEl v f k q → ∀ y ∈ spElA v f u k q, q ≤ y ∧ y < spEl v f k q
  | 0, q, q0, _, h => absurd (show 0 ≤ -1 - q from h) (by omega)
  | k + 1, q, q0, q1, h => by
    have b := hf q q0 q1
    unfold bd at b
    rw [spEl_s] at h ⊢
    intro y hy
    rw [spElA_s] at hy
    by_cases c1 : f q < 0
    · rw [if_pos c1] at h; omega
    · rw [if_neg c1] at h ⊢
      have hu1 := hu q q0 q1 (by omega)
      by_cases c2 : v (f q) = 93
      · rw [if_pos c2] at hy ⊢
        rw [List.append_nil] at hy
        have := hu1 y hy
        omega
      · rw [if_neg c2] at h hy ⊢
        by_cases c3 : k = 0 ∨ v (f q) ≠ 44
        · rw [if_pos c3] at h; omega
        · rw [if_neg c3] at h ⊢
          have hl : f q < N := lt_of hv (by omega)
          have ih := spElA_in hv hf hu k (f q + 1) (by omega) (by omega) h
          have b2 := spEl_b hv hf k (f q + 1) (by omega) (by omega)
          unfold bd at b2
          rcases List.mem_append.mp hy with z | z
          · have := hu1 y z; omega
          · have := ih y z; omega
theorem spFsA_in {v : Int → Int} {f : Int → Int → Int} {u : Int → Int → List Int} {N : Int} (hv : ∀ p, N ≤ p → v p = 0) (hf : ∀ t q, 0 ≤ q → q ≤ N → bd N q (f t q)) (hu : ∀ t q, 0 ≤ q → q ≤ N → 0 ≤ f t q → ∀ y ∈ u t q, q ≤ y ∧ y < f t q) : ∀ (l : List Int) (q : Int), 0 ≤ q → q ≤ N → 0 ≤ spFs v f l q → ∀ y ∈ spFsA f u l q, q ≤ y ∧ y < spFs v f l q
  | [], q, q0, _, h => absurd (show 0 ≤ -1 - q from h) (by omega)
  | [x], q, q0, q1, h => by
    rw [spFs_1] at h ⊢
    intro y hy
    rw [spFsA_1] at hy
    by_cases c1 : f (x + 2) q < 0
    · rw [if_pos c1] at h; omega
    · rw [if_neg c1] at h ⊢
      have := hu (x + 2) q q0 q1 (by omega) y hy
      by_cases c2 : v (f (x + 2) q) = 125
      · rw [if_pos c2]; omega
      · rw [if_neg c2] at h; omega
  | x :: z :: l, q, q0, q1, h => by
    have b := hf (x + 2) q q0 q1
    unfold bd at b
    rw [spFs_2] at h ⊢
    intro y hy
    rw [spFsA_2] at hy
    by_cases c1 : f (x + 2) q < 0
    · rw [if_pos c1] at h; omega
    · rw [if_neg c1] at h ⊢
      by_cases c2 : v (f (x + 2) q) = 44
      · rw [if_pos c2] at h ⊢
        have hl : f (x + 2) q < N := lt_of hv (by omega)
        have ih := spFsA_in hv hf hu (z :: l) (f (x + 2) q + 1) (by omega) (by omega) h
        have b2 := spFs_b hv hf (z :: l) (f (x + 2) q + 1) (by omega) (by omega)
        unfold bd at b2
        rcases List.mem_append.mp hy with w | w
        · have := hu (x + 2) q q0 q1 (by omega) y w; omega
        · have := ih y w; omega
      · rw [if_neg c2] at h; omega
/-- the marked places lie inside the literal -/
theorem spU_in {N : Int} {c v : Int → Int} {val : Bool} (hv : ∀ p, N ≤ p → v p = 0) : ∀ (D : Nat) (t q : Int), 0 ≤ q → q ≤ N → 0 ≤ spVal c v val D t q → ∀ y ∈ spU c v val D t q, q ≤ y ∧ y < spVal c v val D t q
  | 0, _, _, _, _, _ => fun y hy => absurd hy (List.not_mem_nil)
  | D + 1, t, q, q0, q1, h => by
    intro y hy
    rw [spVal_s] at h ⊢
    rw [spU_s] at hy
    unfold spV1 at h ⊢
    unfold spU1 at hy
    have ih := fun t q q0 q1 h => spU_in (c := c) (val := val) hv D t q q0 q1 h
    have bb := fun t q q0 q1 => spVal_b (c := c) (val := val) hv D t q q0 q1
    by_cases c1 : c t = 65
    · rw [if_pos c1] at h hy ⊢
      by_cases c2 : v q = 91
      · rw [if_pos c2] at h ⊢
        have hl : q < N := lt_of hv (by omega)
        by_cases c3 : v (q + 1) = 93
        · rw [if_pos c3] at hy; exact absurd hy (List.not_mem_nil)
        · rw [if_neg c3] at h hy ⊢
          have := spElA_in hv (bb (t + 1)) (ih (t + 1)) (mst val) (q + 1) (by omega) (by omega) h y hy
          exact ⟨by omega, this.2⟩
      · rw [if_neg c2] at h; omega
    · rw [if_neg c1] at h hy ⊢
      by_cases c2 : c t = 85
      · rw [if_pos c2] at h hy ⊢
        cases val with
        | true =>
          simp only [if_true] at h hy ⊢
          by_cases c3 : 0 ≤ v q - 48 ∧ v q - 48 < (spPt c (D + 1) t).length
          · rw [if_pos c3] at h ⊢
            have hl : q < N := lt_of hv (by omega)
            by_cases c4 : v (q + 1) = 58
            · rw [if_pos c4] at h ⊢
              have hl2 : q + 1 < N := lt_of hv (by omega)
              have := ih _ (q + 2) (by omega) (by omega) h y hy
              exact ⟨by omega, this.2⟩
            · rw [if_neg c4] at h; omega
          · rw [if_neg c3] at h; omega
        | false =>
          simp only [Bool.false_eq_true, if_false] at h hy ⊢
          have b := bb (t + 2) q q0 q1
          unfold bd at b
          rcases List.mem_cons.mp hy with z | z
          · omega
          · exact ih _ q q0 q1 h y z
      · rw [if_neg c2] at h hy ⊢
        by_cases c3 : c t = 82
        · rw [if_pos c3] at h hy ⊢
          by_cases c4 : v q = 123
          · rw [if_pos c4] at h ⊢
            have hl : q < N := lt_of hv (by omega)
            have := spFsA_in hv bb ih _ (q + 1) (by omega) (by omega) h y hy
            exact ⟨by omega, this.2⟩
          · rw [if_neg c4] at h; omega
        · rw [if_neg c3] at hy; exact absurd hy (List.not_mem_nil)
