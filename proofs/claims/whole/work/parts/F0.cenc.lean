theorem cH_id {g : ax_Hp} {K : Nat → Nat} {s : cS} (h0 : g.2.2 (K 0) = some (.inl (0, [ax_A (some (K 6)), ax_I (Int32.ofInt (K 7)), ax_I (Int32.ofInt s.1)]))) (h1 : g.2.2 (K 1) = some (.inr (1, arL (K 8) s.2.1))) (h2 : g.2.2 (K 2) = some (.inr (1, arL (K 8) s.2.2.1))) (h3 : g.2.2 (K 3) = some (.inr (1, arL (K 8) s.2.2.2.1))) (h4 : g.2.2 (K 4) = some (.inl (2, [ax_A (some (K 5)), ax_I (Int32.ofInt s.2.2.2.2.1)]))) (h5 : g.2.2 (K 5) = some (.inr (1, arL (K 9) s.2.2.2.2.2))) : cH g K s = g := by
  refine Prod.ext rfl (Prod.ext rfl ?_)
  funext q
  show (if q = K 0 then _ else if q = K 1 then _ else if q = K 2 then _ else if q = K 3 then _ else if q = K 4 then _ else if q = K 5 then _ else _) = _
  by_cases c0 : q = K 0
  · rw [if_pos c0, c0, h0]
  by_cases c1 : q = K 1
  · rw [if_neg c0, if_pos c1, c1, h1]
  by_cases c2 : q = K 2
  · rw [if_neg c0, if_neg c1, if_pos c2, c2, h2]
  by_cases c3 : q = K 3
  · rw [if_neg c0, if_neg c1, if_neg c2, if_pos c3, c3, h3]
  by_cases c4 : q = K 4
  · rw [if_neg c0, if_neg c1, if_neg c2, if_neg c3, if_pos c4, c4, h4]
  by_cases c5 : q = K 5
  · rw [if_neg c0, if_neg c1, if_neg c2, if_neg c3, if_neg c4, if_pos c5, c5, h5]
  rw [if_neg c0, if_neg c1, if_neg c2, if_neg c3, if_neg c4, if_neg c5]
theorem bi_if {p : Prop} [Decidable p] : (if p then (1 : Int) else 0) = 0 ∨ (if p then (1 : Int) else 0) = 1 := by split <;> omega
/-- the class reads a whole value -/
theorem Vr_whole {m : Nat} {g : ax_Hp} {K : Nat → Nat} {vr sc tr ti l : Nat} {c v : Int → Int} {s : cS} (h : kOk K) (h9 : K 9 = 400) (X : vrX g K vr sc true) (V : cvX g K v) (S : csX g K sc tr ti l c) (hT : 0 ≤ spTy c 6 0) (hM : MkN s.2.2.1 c 6 0) (q0 : s.1 = 0) (z0 : s.2.2.2.2.1 = 0) : ∃ s', ax_F (m + 18) 106 [ax_A (some vr)] (cH g K s) = some (.inl (some (ax_I (Int32.ofInt (if spVal c v true 6 0 0 = K 7 then 1 else 0)))), cH g K s') ∧ vPost K true s s' (spVal c v true 6 0 0) (spO 1 c v true 6 0 0) (spU c v true 6 0 0) := by
  have k7 := h.2.1
  obtain ⟨s', f1, f2⟩ := Vr_all h (fun z => absurd z (by decide)) X V S 6 m s 0 0 (by omega) (by omega) (by omega) hT hM (by omega) (by omega) ⟨by omega, fun _ => z0, fun _ => by omega⟩
  rw [q0] at f1 f2
  refine ⟨s', ?_, f2⟩
  have ve : s'.1 = if 0 ≤ spVal c v true 6 0 0 then spVal c v true 6 0 0 else -1 - spVal c v true 6 0 0 := f2.1
  have ev := fun z => spVal_gt (c := c) (val := true) (V_lt V).1 6 0 0 (by omega) (by omega) z
  generalize spVal c v true 6 0 0 = e at *
  rw [ValueReader_readWhole_F]
  unfold ValueReader_readWhole_b
  rw [vr_on X, pl_ci (show ax_F (m + 17) 43 [ax_A (some vr), ax_I 0, ax_I 0] (cH g K s) = _ from f1)]
  by_cases c1 : 0 ≤ e
  · have hv := ev c1
    rw [if_pos c1] at ve
    rw [if_pos c1, if_neg (show ¬ Int32.ofInt 1 = 0 from by decide), vr_gr0 X, Option.bind_some, cu_on, pl_ci (Cu_end h (by omega) (by omega))]
    by_cases c2 : e = K 7
    · rw [if_neg (show ¬ s'.1 < (K 7 : Int) by omega), if_neg (show ¬ Int32.ofInt 1 = 0 from by decide), if_pos c2]
      exact za_rz (v := 1) (Or.inr rfl)
    · rw [if_pos (show s'.1 < (K 7 : Int) by omega), if_pos (show Int32.ofInt 0 = 0 from rfl), if_neg c2]
      exact za_rz (v := 0) (Or.inl rfl)
  · rw [if_neg c1, if_pos (show Int32.ofInt 0 = 0 from rfl), if_neg (show ¬ e = K 7 by omega)]
    exact za_rz (v := 0) (Or.inl rfl)
/-- a version's Schema object: its row, the row's items and its marks lie behind it -/
def verX (h : ax_Hp) (sc l : Nat) (c : Int → Int) (fe fn fu : Nat → Int) : Prop := h.2.2 sc = some (.inl (3, [ax_A (some (sc + 1)), ax_A (some (sc + 3)), ax_A (some (sc + 4)), ax_A (some (sc + 5))])) ∧ h.2.2 (sc + 1) = some (.inl (2, [ax_A (some (sc + 2)), ax_I (Int32.ofInt l)])) ∧ h.2.2 (sc + 2) = some (.inr (1, arL l (fun i => c i))) ∧ h.2.2 (sc + 3) = some (.inr (1, arL l fe)) ∧ h.2.2 (sc + 4) = some (.inr (1, arL l fn)) ∧ h.2.2 (sc + 5) = some (.inr (1, arL l fu)) ∧ 60 ≤ sc ∧ sc + 5 ≤ h.1 ∧ l ≤ 160 ∧ (∀ p : Int, (l : Int) ≤ p → c p = 0) ∧ (∀ p : Int, 0 ≤ c p ∧ c p < 128) ∧ gdS l c fe fn fu
theorem verX_A {h : ax_Hp} {sc l : Nat} {c : Int → Int} {fe fn fu : Nat → Int} (V : verX h sc l c fe fn fu) : schA h sc l c fe fn fu := by
  obtain ⟨v1, v2, v3, v4, v5, v6, v7, v8, v9, v10, v11, _⟩ := V
  exact ⟨_, _, _, _, _, l, l, _, v1, v2, v3, v4, v5, v6, by omega, v9, by omega, by omega, fun p p0 _ => by show c (p.toNat : Int) = c p; rw [Int.toNat_of_nonneg p0], v10, v11⟩
theorem verX_kept {h h' : ax_Hp} {sc l : Nat} {c : Int → Int} {fe fn fu : Nat → Int} (V : verX h sc l c fe fn fu) (hl : h.1 ≤ h'.1) (e : ∀ a, 60 ≤ a → a ≤ h.1 → h'.2.2 a = h.2.2 a) : verX h' sc l c fe fn fu := by
  obtain ⟨v1, v2, v3, v4, v5, v6, v7, v8, v9⟩ := V
  refine ⟨?_, ?_, ?_, ?_, ?_, ?_, v7, by omega, v9⟩
  · rw [e _ (by omega) (by omega), v1]
  · rw [e _ (by omega) (by omega), v2]
  · rw [e _ (by omega) (by omega), v3]
  · rw [e _ (by omega) (by omega), v4]
  · rw [e _ (by omega) (by omega), v5]
  · rw [e _ (by omega) (by omega), v6]
def eK (a e nx u dr di ti n n8 n9 : Nat) : Nat → Nat
  | 0 => a
  | 1 => e
  | 2 => nx
  | 3 => u
  | 4 => dr
  | 5 => di
  | 6 => ti
  | 7 => n
  | 8 => n8
  | _ => n9
theorem eK_ok {a e nx u dr di ti n n8 n9 : Nat} (h1 : e < nx) (h2 : nx < u) (h3 : u < a) (h4 : dr < e) (h5 : di < e) (h6 : dr ≠ di) (h7 : n ≤ 160) (h8 : n8 ≤ 160) (h9 : n9 ≤ 400) : kOk (eK a e nx u dr di ti n n8 n9) := by
  refine ⟨fun i j hi hj => ?_, h7, h8, h9⟩
  rcases (show i = 0 ∨ i = 1 ∨ i = 2 ∨ i = 3 ∨ i = 4 ∨ i = 5 by omega) with rfl | rfl | rfl | rfl | rfl | rfl <;> rcases (show j = 0 ∨ j = 1 ∨ j = 2 ∨ j = 3 ∨ j = 4 ∨ j = 5 by omega) with rfl | rfl | rfl | rfl | rfl | rfl <;> intro z <;> first | rfl | (exfalso; simp only [eK] at z; omega)
theorem eK_ne {a e nx u dr di ti n n8 n9 q : Nat} (h : q ≠ a ∧ q ≠ e ∧ q ≠ nx ∧ q ≠ u ∧ q ≠ dr ∧ q ≠ di) : ∀ i, i < 6 → q ≠ eK a e nx u dr di ti n n8 n9 i := c6 h.1 h.2.1 h.2.2.1 h.2.2.2.1 h.2.2.2.2.1 h.2.2.2.2.2
theorem Desk_showDraft_e {m n a b i : Nat} {h : ax_Hp} {x0 x1 x2 x3 x4 x7 : ax_T} (hd : h.2.2 1 = some (.inl (8, [x0, x1, x2, x3, x4, ax_A (some a), ax_A (some b), x7]))) (hb : h.2.2 b = some (.inl (2, [ax_A (some i), ax_I (Int32.ofInt n)]))) (h1 : b ≠ 1) : ax_F (m + 2) 100 [ax_A (some 1)] h = some (.inl (some (ax_I (Int32.ofInt n))), ax_set h 1 (.inl (8, [x0, x1, x2, x3, x4, ax_A (some b), ax_A (some a), x7]))) := by
  rw [Desk_showDraft_F]
  unfold Desk_showDraft_b
  rw [pl_gr hd (v := some a) rfl, Option.bind_some, pl_gr hd (v := some b) rfl, Option.bind_some, pl_pf hd (Nat.le_of_ble_eq_true rfl), Option.bind_some, pl_pf pl_set (Nat.le_of_ble_eq_true rfl), Option.bind_some, ax_set_set, pl_gr pl_set (v := some b) rfl, Option.bind_some, pl_on ((pl_ne h1).trans hb), Row_size_F]
  unfold Row_size_b
  rw [pl_gi ((pl_ne h1).trans hb) (v := Int32.ofInt n) rfl]
  rfl
/-- the class clears a row -/
theorem Row_clr {m a b : Nat} {n : Int32} {h : ax_Hp} (e : h.2.2 a = some (.inl (2, [ax_A (some b), ax_I n]))) : ax_F (m + 1) 10 [ax_A (some a)] h = some (.inl (some (ax_I n)), ax_set h a (.inl (2, [ax_A (some b), ax_I 0]))) := by
  rw [Row_clear_F]
  unfold Row_clear_b
  rw [pl_gi e (v := n) rfl, Option.bind_some, pl_pf e (Nat.le_of_ble_eq_true rfl)]
  rfl
