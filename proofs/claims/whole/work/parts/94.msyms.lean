theorem spSy_in {c : Int → Int} {p : Int} {f k : Nat} : (∃ j : Nat, j < k ∧ c (p + j) = c (p + k)) ∨ ∀ j : Nat, j < k → c (p + j) ≠ c (p + k) := by
  by_cases h : ∃ j : Nat, j < k ∧ c (p + j) = c (p + k)
  · exact Or.inl h
  · exact Or.inr fun j h1 h2 => h ⟨j, h1, h2⟩
theorem spIx_n {c : Int → Int} {p x : Int} : ∀ k : Nat, (∀ j : Nat, j < k → c (p + j) ≠ x) → spIx c p x k = -1
  | 0, _ => rfl
  | k + 1, h => by
    rw [spIx_s, if_neg (h k (by omega))]
    exact spIx_n k fun j hj => h j (by omega)
theorem spIx_p {c : Int → Int} {p x : Int} : ∀ k : Nat, (∃ j : Nat, j < k ∧ c (p + j) = x) → 0 ≤ spIx c p x k
  | 0, ⟨j, h, _⟩ => absurd h (Nat.not_lt_zero _)
  | k + 1, ⟨j, h1, h2⟩ => by
    rw [spIx_s]
    by_cases e : c (p + k) = x
    · rw [if_pos e]; omega
    · rw [if_neg e]
      refine spIx_p k ⟨j, ?_, h2⟩
      by_cases q : j = k
      · rw [q] at h2; exact absurd h2 e
      · omega
theorem isT_U {s : mS} {t : Int} {c : Int → Int} (T : isT s t c) (k : Nat) (i v : Int) (h1 : k ≠ 15) (h2 : k ≠ 14) : isT (mU s k i v) t c := isT_of T (mU_ne _ _ _ _ _ (Ne.symm h1)) (mU_ne _ _ _ _ _ (Ne.symm h2))
theorem Model_readSymbols_l {m : Nat} {h : ax_Hp} {tb n p : Int} {c : Int → Int} (tb0 : 0 ≤ tb) (tb1 : tb < 2) (n0 : 0 ≤ n) (n1 : n < 240) (p0 : 0 ≤ p) (p1 : p < 1000) : ∀ (f : Nat) (k fuel : Nat) (s : mS), isT s tb c → p + k ≤ s.2.2.1 15 tb.toNat → s.2.2.1 20 n.toNat = k → s.2.2.1 22 n.toNat = p → k + f = 8 → f < fuel →
    ∃ s', Model_readSymbols_lp31 (ax_F (m + 1)) fuel (some 24) (Int32.ofInt tb) (Int32.ofInt n) (Int32.ofInt (p + k)) (mH h s) = Model_readSymbols_jn87 (ax_F (m + 1)) (some 24) (Int32.ofInt tb) (Int32.ofInt n) (Int32.ofInt (p + spSy c p f k)) (mH h s') ∧ s'.1 = s.1 ∧ s'.2.1 = s.2.1 ∧ s'.2.2.2 = s.2.2.2 ∧ (∀ j, j ≠ 20 → s'.2.2.1 j = s.2.2.1 j) ∧ (∀ i : Nat, i ≠ n.toNat → s'.2.2.1 20 i = s.2.2.1 20 i) ∧ s'.2.2.1 20 n.toNat = spSy c p f k := by
  have stop : ∀ (k fuel : Nat) (s : mS), isT s tb c → p + k ≤ s.2.2.1 15 tb.toNat → s.2.2.1 20 n.toNat = k → s.2.2.1 22 n.toNat = p → k ≤ 8 → 0 < fuel → (k = 8 ∨ ¬ (isSm (c (p + k)) ∧ ∀ j : Nat, j < k → c (p + j) ≠ c (p + k))) → Model_readSymbols_lp31 (ax_F (m + 1)) fuel (some 24) (Int32.ofInt tb) (Int32.ofInt n) (Int32.ofInt (p + k)) (mH h s) = Model_readSymbols_jn87 (ax_F (m + 1)) (some 24) (Int32.ofInt tb) (Int32.ofInt n) (Int32.ofInt (p + k)) (mH h s) := by
    intro k fuel s T hN hk hs hk8 hf hstop
    obtain ⟨fuel, rfl⟩ : ∃ g, fuel = g + 1 := ⟨fuel - 1, by omega⟩
    have hstep : Model_readSymbols_lp31 (ax_F (m + 1)) (fuel + 1) = Model_readSymbols_bd31 (ax_F (m + 1)) (Model_readSymbols_lp31 (ax_F (m + 1)) fuel) := rfl
    have b := T.2.2.2.2 (p + k)
    rw [hstep]
    unfold Model_readSymbols_bd31
    rw [mS_on, pl_ci (Model_look_z T tb0 tb1 (by omega) (by omega)), pl_ci (Model_isSmall_z b.1 (by omega))]
    by_cases c1 : isSm (c (p + k))
    · rw [if_pos c1, if_neg (show ¬ Int32.ofInt 1 = 0 from by decide), mgr_20, Option.bind_some, mld_20 _ _ _ n0 n1, Option.bind_some, hk]
      by_cases c2 : k = 8
      · rw [if_pos (show (8 : Int32) ≤ Int32.ofInt k from by rw [c2]; decide)]
      · rw [if_neg (show ¬ (8 : Int32) ≤ Int32.ofInt k from by rw [show (8 : Int32) = Int32.ofInt 8 from rfl, zi_le (by omega) (by omega) (by omega) (by omega)]; omega), mS_on, pl_ci (Model_look_z T tb0 tb1 (by omega) (by omega)), mS_on, pl_ci (Model_symbol_z T tb0 tb1 n0 n1 hk (by omega) hs p0 hN b.1 (by omega))]
        have : 0 ≤ spIx c p (c (p + k)) k := by
          refine spIx_p k ?_
          rcases spSy_in (c := c) (p := p) (f := 0) (k := k) with q | q
          · exact q
          · exact absurd ⟨c1, q⟩ (hstop.resolve_left c2)
        have r := spIx_r (c := c) (p := p) (x := c (p + k)) k
        rw [if_pos (show (0 : Int32) ≤ Int32.ofInt (spIx c p (c (p + k)) k) from by rw [zi_0, zi_le (by omega) (by omega) (by omega) (by omega)]; omega)]
    · rw [if_neg c1, if_pos (show Int32.ofInt 0 = 0 from rfl)]
  intro f
  induction f with
  | zero =>
    intro k fuel s T hN hk hs hkf hf
    exact ⟨s, stop k fuel s T hN hk hs (by omega) (by omega) (Or.inl (by omega)), rfl, rfl, rfl, fun _ _ => rfl, fun _ _ => rfl, hk⟩
  | succ f ih =>
    intro k fuel s T hN hk hs hkf hf
    rw [spSy_s]
    by_cases c1 : isSm (c (p + k)) ∧ ∀ j : Nat, j < k → c (p + j) ≠ c (p + k)
    · rw [if_pos c1]
      obtain ⟨fuel, rfl⟩ : ∃ g, fuel = g + 1 := ⟨fuel - 1, by omega⟩
      have hstep : Model_readSymbols_lp31 (ax_F (m + 1)) (fuel + 1) = Model_readSymbols_bd31 (ax_F (m + 1)) (Model_readSymbols_lp31 (ax_F (m + 1)) fuel) := rfl
      have b := T.2.2.2.2 (p + k)
      have lt := lt_of T.2.2.2.1 (q := p + k) (by omega)
      have hT : isT (mU s 20 n ((k : Int) + 1)) tb c := isT_U T 20 n _ (by decide) (by decide)
      obtain ⟨s', e, r1, r2, r3, r4, r5, r6⟩ := ih (k + 1) fuel (mU s 20 n ((k : Int) + 1)) hT (by rw [mU_ne _ _ _ _ _ (by decide)]; omega) (by rw [mU_3, if_pos ⟨rfl, rfl⟩]; omega) (by rw [mU_ne _ _ _ _ _ (by decide)]; exact hs) (by omega) (by omega)
      refine ⟨s', ?_, r1, r2, r3, fun j hj => (r4 j hj).trans (mU_ne _ _ _ _ _ hj), fun i hi => (r5 i hi).trans (by rw [mU_3, if_neg (fun z => hi z.2)]), r6⟩
      rw [hstep]
      unfold Model_readSymbols_bd31
      rw [mS_on, pl_ci (Model_look_z T tb0 tb1 (by omega) (by omega)), pl_ci (Model_isSmall_z b.1 (by omega)), if_pos c1.1, if_neg (show ¬ Int32.ofInt 1 = 0 from by decide), mgr_20, Option.bind_some, mld_20 _ _ _ n0 n1, Option.bind_some, hk]
      rw [if_neg (show ¬ (8 : Int32) ≤ Int32.ofInt k from by rw [show (8 : Int32) = Int32.ofInt 8 from rfl, zi_le (by omega) (by omega) (by omega) (by omega)]; omega), mS_on, pl_ci (Model_look_z T tb0 tb1 (by omega) (by omega)), mS_on, pl_ci (Model_symbol_z T tb0 tb1 n0 n1 hk (by omega) hs p0 hN b.1 (by omega)), spIx_n k c1.2, if_neg (show ¬ (0 : Int32) ≤ Int32.ofInt (-1) from by decide), mgr_20, Option.bind_some, mld_20 _ _ _ n0 n1, Option.bind_some, hk, show (1 : Int32) = Int32.ofInt 1 from rfl, zi_add, zi_add, mst_20 _ _ _ _ n0 n1, Option.bind_some]
      rw [show p + ((k + 1 : Nat) : Int) = p + k + 1 by omega] at e
      exact e
    · rw [if_neg c1]
      exact ⟨s, stop k fuel s T hN hk hs (by omega) (by omega) (Or.inr c1), rfl, rfl, rfl, fun _ _ => rfl, fun _ _ => rfl, hk⟩
