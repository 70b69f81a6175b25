theorem Model_beh_end {m : Nat} {h : ax_Hp} {s : mS} {tb p : Int} (htb : tb = 0 ∨ tb = 1) (hp : 0 ≤ p ∧ p ≤ 160) (ho : s.1 26 = 0) (hz : 0 ≤ s.2.2.1 15 tb.toNat ∧ s.2.2.1 15 tb.toNat ≤ 160) : ax_F (m + 1) 154 [ax_A (some 24), ax_I (Int32.ofInt tb), ax_I (Int32.ofInt p)] (mH h s) = some (.inl (some (ax_I (Int32.ofInt (if p = s.2.2.1 15 tb.toNat then p else -1 - p)))), mH h (mI (mI s 38 1) 38 0)) := by
  rw [Model_readBehind_F]
  unfold Model_readBehind_b
  rw [show (1 : Int32) = Int32.ofInt 1 from rfl, mpf_38, Option.bind_some, mgi_26, Option.bind_some, show (mI s 38 1).1 26 = 0 from ho, if_pos (show Int32.ofInt 0 = 0 from rfl), zi_0, mpf_38, Option.bind_some, mgr_15, Option.bind_some, mld_15 _ _ _ (by omega) (by omega), Option.bind_some]
  by_cases e : p = s.2.2.1 15 tb.toNat
  · rw [if_pos e, if_pos (show Int32.ofInt p = Int32.ofInt ((mI (mI s 38 1) 38 0).2.2.1 15 tb.toNat) from by rw [e]; rfl)]; rfl
  · rw [if_neg e, if_neg (show ¬ Int32.ofInt p = Int32.ofInt ((mI (mI s 38 1) 38 0).2.2.1 15 tb.toNat) from by rw [mI_2, mI_2, zi_eq (by omega) (by omega) (by omega) (by omega)]; exact e), zi_neg, zi_sub]; rfl
/-- behind a type that stands in a U, an A or an R: n is the holder's node -/
theorem Model_beh_A {m : Nat} {h : ax_Hp} {s : mS} {tb p o n : Int} (ho : s.1 26 = o) (o0 : 0 < o) (o1 : o ≤ 8) (hn : s.2.2.1 27 (o - 1).toNat = n) (n0 : 0 ≤ n) (n1 : n < 240) (hk : s.2.2.1 17 n.toNat = 65) : ax_F (m + 1) 154 [ax_A (some 24), ax_I (Int32.ofInt tb), ax_I (Int32.ofInt p)] (mH h s) = some (.inl (some (ax_I (Int32.ofInt p))), mH h (mI (mI s 38 1) 26 (o - 1))) := by
  rw [Model_readBehind_F]
  unfold Model_readBehind_b
  simp (disch := omega) only [↓mgi_26, mpf_26, mpf_38, ↓mgr_27, ↓mgr_17, mld_27, mld_17, Option.bind_some, ↓zi_lit, zi_sub, mI_1, mI_2, zi_eq, ↓reduceIte, eq_self, Nat.reduceEqDiff, Int.reduceEq, ho, hn, hk]
  rw [if_neg (show ¬ o = 0 by omega)]
  rfl
/-- the end of readBehind, at p, of the holder n -/
theorem Model_beh_fin {m : Nat} {h : ax_Hp} {s : mS} {c : Int → Int} {tb p o n k mn : Int} (T : isT s tb c) (htb : tb = 0 ∨ tb = 1) (hp : 0 ≤ p ∧ p ≤ 160) (ho : s.1 26 = o) (o0 : 0 < o) (o1 : o ≤ 8) (n0 : 0 ≤ n) (n1 : n < 240) (hk : s.2.2.1 17 n.toNat = k) (hk2 : k = 85 ∨ k = 82) (hm : s.2.2.1 20 n.toNat = mn) (m0 : 0 ≤ mn) (m1 : mn < 100) :
    Model_readBehind_jn179 (ax_F (m + 1)) (some 24) (Int32.ofInt tb) (Int32.ofInt p) (Int32.ofInt n) (mH h s) = if c p = 44 ∧ mn < (if k = 85 then 4 else 6) then some (.inl (some (ax_I (Int32.ofInt (p + 1)))), mH h (mI s 38 (if k = 85 then 2 else 3))) else if c p = 41 ∧ (k = 82 ∨ 1 < mn) then some (.inl (some (ax_I (Int32.ofInt (p + 1)))), mH h (mI s 26 (o - 1))) else some (.inl (some (ax_I (Int32.ofInt (-1 - p)))), mH h s) := by
  have b := T.2.2.2.2 p
  have look := Model_look_z (n := m) (h := h) T (by omega) (by omega) hp.1 (by omega)
  have fin243 : Model_readBehind_jn243 (ax_F (m + 1)) (some 24) (Int32.ofInt tb) (Int32.ofInt p) (Int32.ofInt n) (mH h s) = if c p = 41 ∧ (k = 82 ∨ 1 < mn) then some (.inl (some (ax_I (Int32.ofInt (p + 1)))), mH h (mI s 26 (o - 1))) else some (.inl (some (ax_I (Int32.ofInt (-1 - p)))), mH h s) := by
    unfold Model_readBehind_jn243 Model_readBehind_jn277 Model_readBehind_jn291
    rw [mS_on, pl_ci look]
    simp (disch := omega) only [↓mgi_26, mpf_26, ↓mgr_17, ↓mgr_20, mld_17, mld_20, Option.bind_some, ↓zi_lit, zi_add, zi_sub, zi_neg, zi_le, zi_eq, Int.reduceNeg, ho, hk, hm]
    by_cases e : c p = 41
    · rw [if_pos e]
      rcases hk2 with q | q
      · rw [if_neg (show ¬ k = 82 by omega)]
        by_cases w : mn ≤ 1
        · rw [if_pos w, if_neg (show ¬ (c p = 41 ∧ (k = 82 ∨ 1 < mn)) by omega)]; rfl
        · rw [if_neg w, if_pos (show c p = 41 ∧ (k = 82 ∨ 1 < mn) by omega)]; rfl
      · rw [if_pos q, if_pos (show c p = 41 ∧ (k = 82 ∨ 1 < mn) by omega)]; rfl
    · rw [if_neg e, if_neg (show ¬ (c p = 41 ∧ (k = 82 ∨ 1 < mn)) by omega)]; rfl
  unfold Model_readBehind_jn179
  rw [mS_on, pl_ci look]
  by_cases e : c p = 44
  · rw [if_pos (show Int32.ofInt (c p) = 44 from by rw [e]; rfl), mgr_20, Option.bind_some, mld_20 _ _ _ n0 n1, Option.bind_some, mgr_17, Option.bind_some, mld_17 _ _ _ n0 n1, Option.bind_some, hm, hk]
    unfold Model_readBehind_jn215 Model_readBehind_jn236
    rcases hk2 with q | q
    · subst q
      rw [if_pos (show Int32.ofInt 85 = 85 from rfl), if_pos rfl, if_pos rfl]
      by_cases w : mn < 4
      · rw [if_neg (show ¬ (4 : Int32) ≤ Int32.ofInt mn from by rw [show (4 : Int32) = Int32.ofInt 4 from rfl, zi_le (by omega) (by omega) (by omega) (by omega)]; omega), if_pos (show c p = 44 ∧ mn < 4 from ⟨e, w⟩), mgr_17, Option.bind_some, mld_17 _ _ _ n0 n1, Option.bind_some, hk, if_pos (show Int32.ofInt 85 = 85 from rfl), show (2 : Int32) = Int32.ofInt 2 from rfl, mpf_38, Option.bind_some, show (1 : Int32) = Int32.ofInt 1 from rfl, zi_add]
        rfl
      · rw [if_pos (show (4 : Int32) ≤ Int32.ofInt mn from by rw [show (4 : Int32) = Int32.ofInt 4 from rfl, zi_le (by omega) (by omega) (by omega) (by omega)]; omega), if_neg (show ¬ (c p = 44 ∧ mn < 4) from fun z => w z.2), fin243]
    · subst q
      rw [if_neg (show ¬ Int32.ofInt 82 = 85 from by decide), if_neg (show ¬ (82 : Int) = 85 by decide), if_neg (show ¬ (82 : Int) = 85 by decide)]
      by_cases w : mn < 6
      · rw [if_neg (show ¬ (6 : Int32) ≤ Int32.ofInt mn from by rw [show (6 : Int32) = Int32.ofInt 6 from rfl, zi_le (by omega) (by omega) (by omega) (by omega)]; omega), if_pos (show c p = 44 ∧ mn < 6 from ⟨e, w⟩), mgr_17, Option.bind_some, mld_17 _ _ _ n0 n1, Option.bind_some, hk, if_neg (show ¬ Int32.ofInt 82 = 85 from by decide), show (3 : Int32) = Int32.ofInt 3 from rfl, mpf_38, Option.bind_some, show (1 : Int32) = Int32.ofInt 1 from rfl, zi_add]
        rfl
      · rw [if_pos (show (6 : Int32) ≤ Int32.ofInt mn from by rw [show (6 : Int32) = Int32.ofInt 6 from rfl, zi_le (by omega) (by omega) (by omega) (by omega)]; omega), if_neg (show ¬ (c p = 44 ∧ mn < 6) from fun z => w z.2), fin243]
  · rw [if_neg (show ¬ Int32.ofInt (c p) = 44 from by rw [show (44 : Int32) = Int32.ofInt 44 from rfl, zi_eq (by omega) (by omega) (by omega) (by omega)]; exact e), fin243, if_neg (show ¬ (c p = 44 ∧ mn < (if k = 85 then 4 else 6)) from fun z => e z.1)]
/-- behind, but for a default -/
theorem Model_beh_UR {m : Nat} {h : ax_Hp} {s : mS} {c : Int → Int} {tb p o n k mn : Int} (T : isT s tb c) (htb : tb = 0 ∨ tb = 1) (hp : 0 ≤ p ∧ p ≤ 160) (ho : s.1 26 = o) (o0 : 0 < o) (o1 : o ≤ 8) (hn : s.2.2.1 27 (o - 1).toNat = n) (n0 : 0 ≤ n) (n1 : n < 240) (hk : s.2.2.1 17 n.toNat = k) (hk2 : k = 85 ∨ k = 82) (hm : s.2.2.1 20 n.toNat = mn) (m0 : 0 ≤ mn) (m1 : mn < 100) (hd : k = 82 → c p ≠ 61) :
    ax_F (m + 2) 154 [ax_A (some 24), ax_I (Int32.ofInt tb), ax_I (Int32.ofInt p)] (mH h s) = if c p = 44 ∧ mn < (if k = 85 then 4 else 6) then some (.inl (some (ax_I (Int32.ofInt (p + 1)))), mH h (mI (mI s 38 1) 38 (if k = 85 then 2 else 3))) else if c p = 41 ∧ (k = 82 ∨ 1 < mn) then some (.inl (some (ax_I (Int32.ofInt (p + 1)))), mH h (mI (mI s 38 1) 26 (o - 1))) else some (.inl (some (ax_I (Int32.ofInt (-1 - p)))), mH h (mI s 38 1)) := by
  have b := T.2.2.2.2 p
  have T1 : isT (mI s 38 1) tb c := isT_of T rfl rfl
  have F := Model_beh_fin (m := m) (h := h) (s := mI s 38 1) (c := c) (tb := tb) (p := p) (o := o) (n := n) (k := k) (mn := mn) T1 htb hp ho o0 o1 n0 n1 hk hk2 hm m0 m1
  rw [← F, Model_readBehind_F]
  unfold Model_readBehind_b
  rw [show (1 : Int32) = Int32.ofInt 1 from rfl, mpf_38, Option.bind_some, mgi_26, Option.bind_some, show (mI s 38 1).1 26 = o from ho, if_neg (show ¬ Int32.ofInt o = 0 from by rw [zi_0, zi_eq (by omega) (by omega) (by omega) (by omega)]; omega), mgr_27, Option.bind_some, Option.bind_some, zi_sub, mld_27 _ _ _ (by omega) (by omega), Option.bind_some, show (mI s 38 1).2.2.1 27 (o - 1).toNat = n from hn, mgr_17, Option.bind_some, mld_17 _ _ _ n0 n1, Option.bind_some, show (mI s 38 1).2.2.1 17 n.toNat = k from hk]
  rcases hk2 with q | q
  · subst q
    rw [if_neg (show ¬ Int32.ofInt 85 = 65 from by decide), Option.bind_some, mld_17 _ _ _ n0 n1, Option.bind_some, show (mI s 38 1).2.2.1 17 n.toNat = 85 from hk, if_neg (show ¬ Int32.ofInt 85 = 82 from by decide)]
  · subst q
    rw [if_neg (show ¬ Int32.ofInt 82 = 65 from by decide), Option.bind_some, mld_17 _ _ _ n0 n1, Option.bind_some, show (mI s 38 1).2.2.1 17 n.toNat = 82 from hk, if_pos (show Int32.ofInt 82 = 82 from rfl), mS_on, pl_ci (Model_look_z T1 (by omega) (by omega) hp.1 (by omega)), if_neg (show ¬ Int32.ofInt (c p) = 61 from by rw [show (61 : Int32) = Int32.ofInt 61 from rfl, zi_eq (by omega) (by omega) (by omega) (by omega)]; exact hd rfl)]
