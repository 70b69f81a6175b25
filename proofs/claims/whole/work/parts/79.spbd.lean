/-- an answer for a reading from q on in a text of N codes -/
def bd (N q r : Int) : Prop := (0 ≤ r ∧ q < r ∧ r ≤ N) ∨ (r < 0 ∧ q ≤ -1 - r ∧ -1 - r ≤ N)
theorem bd_le {N q q' r : Int} (h : bd N q' r) (hq : q ≤ q') : bd N q r := by unfold bd at *; omega
theorem bd_f {N q p : Int} (h1 : q ≤ p) (h2 : p ≤ N) (h3 : 0 ≤ p) : bd N q (-1 - p) := by unfold bd; omega
theorem bd_s {N q p : Int} (h1 : q < p) (h2 : p ≤ N) (h3 : 0 ≤ p) : bd N q p := by unfold bd; omega
theorem lt_of {N : Int} {v : Int → Int} (h : ∀ p, N ≤ p → v p = 0) {q : Int} (hq : v q ≠ 0) : q < N := by
  by_cases c : N ≤ q
  · exact absurd (h q c) hq
  · omega
theorem spNm_b {N : Int} {v : Int → Int} {lim : Int} (h : ∀ p, N ≤ p → v p = 0) : ∀ (f : Nat) (q a : Int), 0 ≤ q → q ≤ N → (0 ≤ (spNm v lim f q a).1 ∧ q ≤ (spNm v lim f q a).1 ∧ (spNm v lim f q a).1 ≤ N) ∨ ((spNm v lim f q a).1 < 0 ∧ q ≤ -1 - (spNm v lim f q a).1 ∧ -1 - (spNm v lim f q a).1 ≤ N)
  | 0, q, a, h0, h1 => by
    show (0 ≤ q ∧ q ≤ q ∧ q ≤ N) ∨ _
    omega
  | f + 1, q, a, h0, h1 => by
    rw [spNm_s]
    by_cases d : isDg (v q)
    · rw [if_pos d]
      have := lt_of h (q := q) (by omega)
      by_cases d2 : 10 * a - (v q - 48) < lim
      · rw [if_pos d2]
        show (0 ≤ -1 - q ∧ _) ∨ (-1 - q < 0 ∧ q ≤ -1 - (-1 - q) ∧ -1 - (-1 - q) ≤ N)
        omega
      · rw [if_neg d2]
        have := spNm_b h f (q + 1) (10 * a - (v q - 48)) (lim := lim) (by omega) (by omega)
        omega
    · rw [if_neg d]
      show (0 ≤ q ∧ q ≤ q ∧ q ≤ N) ∨ _
      omega
theorem spNm_1 {N : Int} {v : Int → Int} {lim : Int} (h : ∀ p, N ≤ p → v p = 0) (f : Nat) (q a : Int) (h0 : 0 ≤ q) (d : isDg (v q)) : bd N q (spNm v lim (f + 1) q a).1 := by
  rw [spNm_s, if_pos d]
  have := lt_of h (q := q) (by omega)
  by_cases d2 : 10 * a - (v q - 48) < lim
  · rw [if_pos d2]
    exact bd_f (Int.le_refl _) (by omega) h0
  · rw [if_neg d2]
    have := spNm_b (lim := lim) h f (q + 1) (10 * a - (v q - 48)) (by omega) (by omega)
    unfold bd
    omega
theorem spNum_b {N : Int} {v : Int → Int} (h : ∀ p, N ≤ p → v p = 0) (w : Bool) (q : Int) (h0 : 0 ≤ q) (h1 : q ≤ N) : bd N q (spNum v w q).1 := by
  unfold spNum
  by_cases c : v q = 45
  · rw [if_pos c]
    have := lt_of h (q := q) (by omega)
    by_cases d : ¬ isDg (v (q + 1)) ∨ v (q + 1) = 48
    · rw [if_pos d]
      exact bd_f (by omega) (by omega) (by omega)
    · rw [if_neg d]
      exact bd_le (spNm_1 h 19 (q + 1) 0 (by omega) (Decidable.byContradiction fun z => d (Or.inl z))) (by omega)
  · rw [if_neg c]
    by_cases d : ¬ isDg (v q)
    · rw [if_pos d]
      exact bd_f (by omega) (by omega) (by omega)
    · rw [if_neg d]
      have d := Decidable.not_not.mp d
      have := lt_of h (q := q) (by omega)
      by_cases e : v q = 48
      · rw [if_pos e]
        exact bd_s (by show q < q + 1; omega) (by show q + 1 ≤ N; omega) (by show 0 ≤ q + 1; omega)
      · rw [if_neg e]
        exact spNm_1 h 19 q 0 h0 d
theorem spStr_b {N : Int} {v : Int → Int} (h : ∀ p, N ≤ p → v p = 0) : ∀ (f : Nat) (q : Int), 0 ≤ q → q ≤ N → bd N q (spStr v f q)
  | 0, q, h0, h1 => by
    rw [spStr_0]
    by_cases c : v q = 34
    · have := lt_of h (q := q) (by omega)
      rw [if_pos c]; exact bd_s (by omega) (by omega) (by omega)
    · rw [if_neg c]; exact bd_f (by omega) (by omega) (by omega)
  | f + 1, q, h0, h1 => by
    rw [spStr_s]
    by_cases c : v q = 34
    · have := lt_of h (q := q) (by omega)
      rw [if_pos c]; exact bd_s (by omega) (by omega) (by omega)
    · rw [if_neg c]
      by_cases d : v q = 0
      · rw [if_pos d]; exact bd_f (by omega) (by omega) (by omega)
      · rw [if_neg d]
        have := lt_of h d
        exact bd_le (spStr_b h f (q + 1) (by omega) (by omega)) (by omega)
theorem spIx_c {c : Int → Int} {p x : Int} : ∀ k : Nat, 0 ≤ spIx c p x k → ∃ j : Nat, j < k ∧ c (p + j) = x
  | 0, h => absurd h (show ¬ (0 : Int) ≤ -1 by decide)
  | k + 1, h => by
    rw [spIx_s] at h
    by_cases e : c (p + k) = x
    · exact ⟨k, by omega, e⟩
    · rw [if_neg e] at h
      obtain ⟨j, h1, h2⟩ := spIx_c k h
      exact ⟨j, by omega, h2⟩
theorem spIx_r {c : Int → Int} {p x : Int} : ∀ k : Nat, -1 ≤ spIx c p x k ∧ spIx c p x k < k
  | 0 => by show (-1 : Int) ≤ -1 ∧ (-1 : Int) < 0; omega
  | k + 1 => by
    rw [spIx_s]
    have := spIx_r (c := c) (p := p) (x := x) k
    split <;> omega
theorem spSy_k {c : Int → Int} {p : Int} : ∀ f k : Nat, k ≤ spSy c p f k ∧ spSy c p f k ≤ k + f ∧ ∀ j : Nat, k ≤ j → j < spSy c p f k → isSm (c (p + j))
  | 0, k => ⟨Nat.le_refl _, Nat.le_refl _, fun j h1 h2 => absurd h2 (by show ¬ j < k; omega)⟩
  | f + 1, k => by
    rw [spSy_s]
    by_cases e : isSm (c (p + k)) ∧ ∀ j : Nat, j < k → c (p + j) ≠ c (p + k)
    · rw [if_pos e]
      obtain ⟨h1, h2, h3⟩ := spSy_k (c := c) (p := p) f (k + 1)
      refine ⟨by omega, by omega, fun j j1 j2 => ?_⟩
      by_cases e2 : j = k
      · rw [e2]; exact e.1
      · exact h3 j (by omega) j2
    · rw [if_neg e]
      exact ⟨by omega, by omega, fun j j1 j2 => absurd j2 (by omega)⟩
theorem spLf_b {N : Int} {c v : Int → Int} (h : ∀ p, N ≤ p → v p = 0) (t q : Int) (h0 : 0 ≤ q) (h1 : q ≤ N) : bd N q (spLf c v t q) := by
  unfold spLf
  have f1 : bd N q (-1 - q) := bd_f (Int.le_refl _) h1 h0
  have s1 : v q ≠ 0 → bd N q (q + 1) := fun z => by have := lt_of h z; exact bd_s (by omega) (by omega) (by omega)
  split
  · split
    · exact s1 (by omega)
    · exact f1
  · split
    · split
      · exact s1 (by omega)
      · exact f1
    · split
      · split
        · exact f1
        · rename_i a _ _ b
          obtain ⟨j, j1, j2⟩ := spIx_c (c := c) (p := t + 2) (x := v q) _ (Int.not_lt.mp b)
          have := (spSy_k (c := c) (p := t + 2) 8 0).2.2 j (Nat.zero_le _) j1
          exact s1 (by omega)
      · split
        · split
          · have := lt_of h (q := q) (by omega)
            exact bd_le (spStr_b h 12 (q + 1) (by omega) (by omega)) (by omega)
          · exact f1
        · exact spNum_b h _ q h0 h1
theorem spEl_b {N : Int} {v f : Int → Int} (h : ∀ p, N ≤ p → v p = 0) (hf : ∀ q, 0 ≤ q → q ≤ N → bd N q (f q)) : ∀ (k : Nat) (q : Int), 0 ≤ q → q ≤ N → bd N q (spEl v f k q)
  | 0, q, h0, h1 => bd_f (Int.le_refl _) h1 h0
  | k + 1, q, h0, h1 => by
    have b := hf q h0 h1
    rw [spEl_s]
    by_cases c1 : f q < 0
    · rw [if_pos c1]; exact b
    · rw [if_neg c1]
      unfold bd at b
      by_cases c2 : v (f q) = 93
      · have := lt_of h (q := f q) (by omega)
        rw [if_pos c2]; exact bd_s (by omega) (by omega) (by omega)
      · rw [if_neg c2]
        by_cases c3 : k = 0 ∨ v (f q) ≠ 44
        · rw [if_pos c3]; exact bd_f (by omega) (by omega) (by omega)
        · rw [if_neg c3]
          have := lt_of h (q := f q) (by omega)
          exact bd_le (spEl_b h hf k (f q + 1) (by omega) (by omega)) (by omega)
theorem spFs_b {N : Int} {v : Int → Int} {f : Int → Int → Int} (h : ∀ p, N ≤ p → v p = 0) (hf : ∀ t q, 0 ≤ q → q ≤ N → bd N q (f t q)) : ∀ (l : List Int) (q : Int), 0 ≤ q → q ≤ N → bd N q (spFs v f l q)
  | [], q, h0, h1 => bd_f (Int.le_refl _) h1 h0
  | [x], q, h0, h1 => by
    have b := hf (x + 2) q h0 h1
    unfold spFs
    by_cases c1 : f (x + 2) q < 0
    · rw [if_pos c1]; exact b
    · rw [if_neg c1]
      unfold bd at b
      by_cases c2 : v (f (x + 2) q) = 125
      · have := lt_of h (q := f (x + 2) q) (by omega)
        rw [if_pos c2]; exact bd_s (by omega) (by omega) (by omega)
      · rw [if_neg c2]; exact bd_f (by omega) (by omega) (by omega)
  | x :: y :: l, q, h0, h1 => by
    have b := hf (x + 2) q h0 h1
    unfold spFs
    by_cases c1 : f (x + 2) q < 0
    · rw [if_pos c1]; exact b
    · rw [if_neg c1]
      unfold bd at b
      by_cases c2 : v (f (x + 2) q) = 44
      · have := lt_of h (q := f (x + 2) q) (by omega)
        rw [if_pos c2]; exact bd_le (spFs_b h hf (y :: l) (f (x + 2) q + 1) (by omega) (by omega)) (by omega)
      · rw [if_neg c2]; exact bd_f (by omega) (by omega) (by omega)
theorem spV1_b {N : Int} {c v : Int → Int} {val : Bool} {pt : Int → List Int} {f : Int → Int → Int} (h : ∀ p, N ≤ p → v p = 0) (hf : ∀ t q, 0 ≤ q → q ≤ N → bd N q (f t q)) (t q : Int) (h0 : 0 ≤ q) (h1 : q ≤ N) : bd N q (spV1 c v val pt f t q) := by
  unfold spV1
  have f1 : bd N q (-1 - q) := bd_f (Int.le_refl _) h1 h0
  split
  · split
    · have := lt_of h (q := q) (by omega)
      split
      · have := lt_of h (q := q + 1) (by omega)
        exact bd_s (by omega) (by omega) (by omega)
      · exact bd_le (spEl_b h (hf (t + 1)) _ (q + 1) (by omega) (by omega)) (by omega)
    · exact f1
  · split
    · split
      · split
        · have := lt_of h (q := q) (by omega)
          split
          · have := lt_of h (q := q + 1) (by omega)
            exact bd_le (hf _ (q + 2) (by omega) (by omega)) (by omega)
          · exact bd_f (by omega) (by omega) (by omega)
        · exact f1
      · exact hf _ _ h0 h1
    · split
      · split
        · have := lt_of h (q := q) (by omega)
          exact bd_le (spFs_b h hf _ (q + 1) (by omega) (by omega)) (by omega)
        · exact f1
      · exact spLf_b h t q h0 h1
theorem spVal_b {N : Int} {c v : Int → Int} {val : Bool} (h : ∀ p, N ≤ p → v p = 0) : ∀ (D : Nat) (t q : Int), 0 ≤ q → q ≤ N → bd N q (spVal c v val D t q)
  | 0, t, q, h0, h1 => spLf_b h t q h0 h1
  | D + 1, t, q, h0, h1 => spV1_b h (spVal_b h D) t q h0 h1
theorem spSy_n {N : Int} {c : Int → Int} (h : ∀ p, N ≤ p → c p = 0) {p : Int} (hp : p ≤ N) (k : Nat) (hk : k = spSy c p 8 0) : p + k ≤ N := by
  by_cases e : k = 0
  · omega
  · have := (spSy_k (c := c) (p := p) 8 0).2.2 (k - 1) (Nat.zero_le _) (by omega)
    have := lt_of h (q := p + (k - 1 : Nat)) (by omega)
    omega
theorem spE_b {N : Int} {c : Int → Int} (h : ∀ p, N ≤ p → c p = 0) (p : Int) (h0 : 0 ≤ p) (hc : c p ≠ 0) : bd N p (spE c p) := by
  have hp := lt_of h hc
  unfold spE
  generalize hk : spSy c (p + 2) 8 0 = k
  split
  · have l1 := lt_of h (q := p + 1) (by omega)
    have l2 := spSy_n h (p := p + 2) (by omega) k hk.symm
    split
    · exact bd_f (by omega) (by omega) (by omega)
    · split
      · have l3 := lt_of h (q := p + 2 + k) (by omega)
        split
        · exact bd_f (by omega) (by omega) (by omega)
        · rename_i a
          obtain ⟨j, j1, j2⟩ := spIx_c (c := c) (p := p + 2) k (Int.not_lt.mp a)
          have := (spSy_k (c := c) (p := p + 2) 8 0).2.2 j (Nat.zero_le _) (by omega)
          have l4 := lt_of h (q := p + 2 + k + 1) (by omega)
          split
          · have l5 := lt_of h (q := p + 2 + k + 2) (by omega)
            exact bd_s (by omega) (by omega) (by omega)
          · exact bd_f (by omega) (by omega) (by omega)
      · split
        · have l3 := lt_of h (q := p + 2 + k) (by omega)
          exact bd_s (by omega) (by omega) (by omega)
        · exact bd_f (by omega) (by omega) (by omega)
  · exact bd_f (by omega) (by omega) (by omega)
theorem spBr_s (c ty : Int → Int) (k : Nat) (seen : List Int) (q : Int) : spBr c ty (k + 1) seen q = if c q = 85 ∨ c q ∈ seen then -1 - q else if ty q < 0 then ty q
    else if seen ≠ [] ∧ c (ty q) = 41 then ty q + 1 else if k = 0 ∨ c (ty q) ≠ 44 then -1 - ty q else spBr c ty k (c q :: seen) (ty q + 1) := rfl
theorem spFd_s (c ty : Int → Int) (lt : Int → Int → Int) (k : Nat) (seen : List Int) (q : Int) : spFd c ty lt (k + 1) seen q = if ¬ isSm (c q) ∨ c q ∈ seen then -1 - q else if c (q + 1) ≠ 58 then -1 - (q + 1) else if ty (q + 2) < 0 then ty (q + 2)
    else if spFe c ty lt q < 0 then spFe c ty lt q
    else if c (spFe c ty lt q) = 41 then spFe c ty lt q + 1 else if k = 0 ∨ c (spFe c ty lt q) ≠ 44 then -1 - spFe c ty lt q else spFd c ty lt k (c q :: seen) (spFe c ty lt q + 1) := rfl
theorem spBr_b {N : Int} {c ty : Int → Int} (h : ∀ p, N ≤ p → c p = 0) (hf : ∀ q, 0 ≤ q → q ≤ N → bd N q (ty q)) : ∀ (k : Nat) (l : List Int) (q : Int), 0 ≤ q → q ≤ N → bd N q (spBr c ty k l q)
  | 0, l, q, h0, h1 => bd_f (Int.le_refl _) h1 h0
  | k + 1, l, q, h0, h1 => by
    have b := hf q h0 h1
    rw [spBr_s]
    split
    · exact bd_f (Int.le_refl _) h1 h0
    · by_cases c1 : ty q < 0
      · rw [if_pos c1]; exact b
      · rw [if_neg c1]
        unfold bd at b
        split
        · rename_i a
          have := lt_of h (q := ty q) (by omega)
          exact bd_s (by omega) (by omega) (by omega)
        · split
          · exact bd_f (by omega) (by omega) (by omega)
          · have := lt_of h (q := ty q) (by omega)
            exact bd_le (spBr_b h hf k _ (ty q + 1) (by omega) (by omega)) (by omega)
theorem spFe_b {N : Int} {c ty : Int → Int} {lt : Int → Int → Int} (h : ∀ p, N ≤ p → c p = 0) (hf : ∀ q, 0 ≤ q → q ≤ N → bd N q (ty q)) (hl : ∀ t q, 0 ≤ q → q ≤ N → bd N q (lt t q)) (q : Int) (h0 : 0 ≤ q + 2) (h1 : q + 2 ≤ N) (ht : 0 ≤ ty (q + 2)) : bd N (q + 2) (spFe c ty lt q) := by
  have b := hf (q + 2) h0 h1
  unfold spFe
  split
  · have := lt_of h (q := ty (q + 2)) (by omega)
    unfold bd at b
    exact bd_le (hl (q + 2) (ty (q + 2) + 1) (by omega) (by omega)) (by omega)
  · exact b
theorem spFd_b {N : Int} {c ty : Int → Int} {lt : Int → Int → Int} (h : ∀ p, N ≤ p → c p = 0) (hf : ∀ q, 0 ≤ q → q ≤ N → bd N q (ty q)) (hl : ∀ t q, 0 ≤ q → q ≤ N → bd N q (lt t q)) : ∀ (k : Nat) (l : List Int) (q : Int), 0 ≤ q → q ≤ N → bd N q (spFd c ty lt k l q)
  | 0, l, q, h0, h1 => bd_f (Int.le_refl _) h1 h0
  | k + 1, l, q, h0, h1 => by
    rw [spFd_s]
    by_cases a1 : ¬ isSm (c q) ∨ c q ∈ l
    · rw [if_pos a1]; exact bd_f (Int.le_refl _) h1 h0
    · rw [if_neg a1]
      have a2 : isSm (c q) := Decidable.byContradiction fun z => a1 (Or.inl z)
      have l1 := lt_of h (q := q) (by omega)
      by_cases a3 : c (q + 1) ≠ 58
      · rw [if_pos a3]; exact bd_f (by omega) (by omega) (by omega)
      · rw [if_neg a3]
        have l2 := lt_of h (q := q + 1) (by omega)
        have b := hf (q + 2) (by omega) (by omega)
        by_cases a4 : ty (q + 2) < 0
        · rw [if_pos a4]; exact bd_le b (by omega)
        · rw [if_neg a4]
          have b2 := spFe_b h hf hl q (by omega) (by omega) (by omega)
          by_cases a5 : spFe c ty lt q < 0
          · rw [if_pos a5]; exact bd_le b2 (by omega)
          · rw [if_neg a5]
            unfold bd at b2
            by_cases a6 : c (spFe c ty lt q) = 41
            · have := lt_of h (q := spFe c ty lt q) (by omega)
              rw [if_pos a6]; exact bd_s (by omega) (by omega) (by omega)
            · rw [if_neg a6]
              by_cases a7 : k = 0 ∨ c (spFe c ty lt q) ≠ 44
              · rw [if_pos a7]; exact bd_f (by omega) (by omega) (by omega)
              · rw [if_neg a7]
                have := lt_of h (q := spFe c ty lt q) (by omega)
                exact bd_le (spFd_b h hf hl k _ (spFe c ty lt q + 1) (by omega) (by omega)) (by omega)
theorem spTy_b {N : Int} {c : Int → Int} (h : ∀ p, N ≤ p → c p = 0) : ∀ (D : Nat) (p : Int), 0 ≤ p → p ≤ N → bd N p (spTy c D p)
  | 0, p, h0, h1 => by
    rw [spTy_0]
    unfold spT0
    split
    · have := lt_of h (q := p) (by omega)
      exact bd_s (by omega) (by omega) (by omega)
    · split
      · exact spE_b h p h0 (by omega)
      · exact bd_f (Int.le_refl _) h1 h0
  | D + 1, p, h0, h1 => by
    rw [spTy_s]
    unfold spT1
    split
    · have := lt_of h (q := p) (by omega)
      exact bd_s (by omega) (by omega) (by omega)
    · split
      · exact spE_b h p h0 (by omega)
      · split
        · have := lt_of h (q := p) (by omega)
          exact bd_le (spTy_b h D (p + 1) (by omega) (by omega)) (by omega)
        · split
          · have := lt_of h (q := p) (by omega)
            split
            · have := lt_of h (q := p + 1) (by omega)
              exact bd_le (spBr_b h (spTy_b h D) 4 [] (p + 2) (by omega) (by omega)) (by omega)
            · exact bd_f (by omega) (by omega) (by omega)
          · split
            · have := lt_of h (q := p) (by omega)
              split
              · have := lt_of h (q := p + 1) (by omega)
                exact bd_le (spFd_b h (spTy_b h D) (spVal_b h D) 6 [] (p + 2) (by omega) (by omega)) (by omega)
              · exact bd_f (by omega) (by omega) (by omega)
            · exact bd_f (Int.le_refl _) h1 h0
