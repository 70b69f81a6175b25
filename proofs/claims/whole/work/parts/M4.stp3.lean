theorem st59 {h : ax_Hp} {w v : ax_T} (e : h.2.2 59 = some (.inr (2, [w]))) : ax_st h (some 59) 2 0 v = some (ax_set h 59 (.inr (2, [v]))) := pl_st (n := 0) e (by decide) (Nat.le_of_ble_eq_true rfl)
section LAWY
variable {m : Nat} {h h1 : ax_Hp} {x y z v : Int32} {f : Int64} {w : ax_T} {fs : List ax_T} {k q : Nat}
theorem Law_reads_v (hd : h.2.2 1 = some (.inl (8, fs))) (e : ax_F m 93 [ax_A (some 1), ax_I x, ax_I y, ax_I z] h = some (.inl (some (ax_I v)), h1)) (e59 : h1.2.2 59 = some (.inr (2, [w]))) : ax_F (m + 1) 92 [ax_A (some 1), ax_I x, ax_I y, ax_I z, ax_A (some 59)] h = some (.inl (some (ax_I 0)), ax_set h1 59 (.inr (2, [ax_L (if v = 0 then 0 else 1)]))) := by
  rw [Law_reads_F]
  unfold Law_reads_b
  rw [pl_on hd, pl_cx_v e]
  show (if v = 0 then _ else _) = _
  by_cases c : v = 0
  · rw [if_pos c, if_pos c, st59 e59]
    rfl
  · rw [if_neg c, if_neg c, st59 e59]
    rfl
theorem Law_print_v (hd : h.2.2 1 = some (.inl (8, fs))) (e : ax_F m 97 [ax_A (some 1), ax_I x, ax_I y, ax_I z] h = some (.inl (some (ax_I v)), h1)) (e59 : h1.2.2 59 = some (.inr (2, [w]))) : ax_F (m + 1) 96 [ax_A (some 1), ax_I x, ax_I y, ax_I z, ax_A (some 59)] h = some (.inl (some (ax_I 0)), ax_set h1 59 (.inr (2, [ax_L v.toInt64]))) := by
  rw [Law_print_F]
  unfold Law_print_b
  rw [pl_on hd, pl_cx_v e]
  show (ax_st h1 (some 59) 2 0 (ax_L v.toInt64)).bind _ = _
  rw [st59 e59]
  rfl
theorem Law_finger_v (hd : h.2.2 1 = some (.inl (8, fs))) (e : ax_F m 102 [ax_A (some 1), ax_I x, ax_I y] h = some (.inl (some (ax_L f)), h1)) (e59 : h1.2.2 59 = some (.inr (2, [w]))) : ax_F (m + 1) 101 [ax_A (some 1), ax_I x, ax_I y, ax_A (some 59)] h = some (.inl (some (ax_I 0)), ax_set h1 59 (.inr (2, [ax_L f]))) := by
  rw [Law_fingerprint_F]
  unfold Law_fingerprint_b
  rw [pl_on hd, pl_cx_v e]
  show (ax_st h1 (some 59) 2 0 (ax_L f)).bind _ = _
  rw [st59 e59]
  rfl
theorem Law_encode_v (hd : h.2.2 1 = some (.inl (8, fs))) (e : ax_F m 105 [ax_A (some 1), ax_I x, ax_I y] h = some (.inl (some (ax_I v)), h1)) (e59 : h1.2.2 59 = some (.inr (2, [w]))) : ax_F (m + 1) 104 [ax_A (some 1), ax_I x, ax_I y, ax_A (some 59)] h = some (.inl (some (ax_I 0)), ax_set h1 59 (.inr (2, [ax_L v.toInt64]))) := by
  rw [Law_encode_F]
  unfold Law_encode_b
  rw [pl_on hd, pl_cx_v e]
  show (ax_st h1 (some 59) 2 0 (ax_L v.toInt64)).bind _ = _
  rw [st59 e59]
  rfl
theorem Law_encode_x (hd : h.2.2 1 = some (.inl (8, fs))) (e : ax_F m 105 [ax_A (some 1), ax_I x, ax_I y] h = some (.inr (0, q), h1)) : ax_F (m + 1) 104 [ax_A (some 1), ax_I x, ax_I y, ax_A (some 59)] h = some (.inl (some (ax_I 1)), h1) := by
  rw [Law_encode_F]
  unfold Law_encode_b
  rw [pl_on hd, pl_cx_x e, if_pos rfl]
  rfl
theorem Law_decode_v (hd : h.2.2 1 = some (.inl (8, fs))) (e : ax_F m 108 [ax_A (some 1), ax_I x, ax_I y, ax_I z] h = some (.inl (some (ax_I v)), h1)) (e59 : h1.2.2 59 = some (.inr (2, [w]))) : ax_F (m + 1) 107 [ax_A (some 1), ax_I x, ax_I y, ax_I z, ax_A (some 59)] h = some (.inl (some (ax_I 0)), ax_set h1 59 (.inr (2, [ax_L v.toInt64]))) := by
  rw [Law_decode_F]
  unfold Law_decode_b
  rw [pl_on hd, pl_cx_v e]
  show (ax_st h1 (some 59) 2 0 (ax_L v.toInt64)).bind _ = _
  rw [st59 e59]
  rfl
theorem Law_decode_x0 (hd : h.2.2 1 = some (.inl (8, fs))) (e : ax_F m 108 [ax_A (some 1), ax_I x, ax_I y, ax_I z] h = some (.inr (0, q), h1)) : ax_F (m + 1) 107 [ax_A (some 1), ax_I x, ax_I y, ax_I z, ax_A (some 59)] h = some (.inl (some (ax_I 1)), h1) := by
  rw [Law_decode_F]
  unfold Law_decode_b
  rw [pl_on hd, pl_cx_x e, if_pos rfl]
  rfl
theorem Law_decode_x1 (hd : h.2.2 1 = some (.inl (8, fs))) (e : ax_F m 108 [ax_A (some 1), ax_I x, ax_I y, ax_I z] h = some (.inr (1, q), h1)) : ax_F (m + 1) 107 [ax_A (some 1), ax_I x, ax_I y, ax_I z, ax_A (some 59)] h = some (.inl (some (ax_I 2)), h1) := by
  rw [Law_decode_F]
  unfold Law_decode_b
  rw [pl_on hd, pl_cx_x e, if_neg (show ¬ (1 : Nat) = 0 from by decide), if_pos rfl]
  rfl
theorem Law_register_v (hd : h.2.2 1 = some (.inl (8, fs))) (e : ax_F m 19 [ax_A (some 1), ax_I x] h = some (.inl (some (ax_I v)), h1)) (e59 : h1.2.2 59 = some (.inr (2, [w]))) : ax_F (m + 1) 18 [ax_A (some 1), ax_I x, ax_A (some 59)] h = some (.inl (some (ax_I 0)), ax_set h1 59 (.inr (2, [ax_L v.toInt64]))) := by
  rw [Law_register_F]
  unfold Law_register_b
  rw [pl_on hd, pl_cx_v e]
  show (ax_st h1 (some 59) 2 0 (ax_L v.toInt64)).bind _ = _
  rw [st59 e59]
  rfl
theorem Law_register_x0 (hd : h.2.2 1 = some (.inl (8, fs))) (e : ax_F m 19 [ax_A (some 1), ax_I x] h = some (.inr (0, q), h1)) : ax_F (m + 1) 18 [ax_A (some 1), ax_I x, ax_A (some 59)] h = some (.inl (some (ax_I 1)), h1) := by
  rw [Law_register_F]
  unfold Law_register_b
  rw [pl_on hd, pl_cx_x e, if_pos rfl]
  rfl
theorem Law_register_x1 (hd : h.2.2 1 = some (.inl (8, fs))) (e : ax_F m 19 [ax_A (some 1), ax_I x] h = some (.inr (1, q), h1)) : ax_F (m + 1) 18 [ax_A (some 1), ax_I x, ax_A (some 59)] h = some (.inl (some (ax_I 2)), h1) := by
  rw [Law_register_F]
  unfold Law_register_b
  rw [pl_on hd, pl_cx_x e, if_neg (show ¬ (1 : Nat) = 0 from by decide), if_pos rfl]
  rfl
end LAWY
theorem run_e {h h1 : ax_Hp} {o oi dr di : Nat} (O : odX o oi dr di) (e : ∀ a, a ≤ h.1 → a ≠ 1 → a ≠ 2 → a ≠ 5 → a ≠ 6 → a ≠ 7 → a ≠ 8 → a ≠ dr → a ≠ di → a ≠ 23 → a ≠ 59 → h1.2.2 a = h.2.2 a) : ∀ a, a ≤ h.1 → (a = 0 ∨ a = 4 ∨ a = o ∨ a = oi ∨ (14 ≤ a ∧ a ≤ 22) ∨ 60 ≤ a) → h1.2.2 a = h.2.2 a := fun a a1 a2 => by
  have ob := od_b O
  exact e a a1 (by omega) (by omega) (by omega) (by omega) (by omega) (by omega) (by omega) (by omega) (by omega) (by omega)
theorem roA {t x y : Nat} (l1 : x ≤ y + 11) (n1 : y ≤ 59 + 11 * t) : x ≤ 59 + 11 * (t + 1) := by omega
theorem roB {t x y : Nat} (l1 : x ≤ y + 700) (n1 : y ≤ 9731 + 700 * t) : x ≤ 9731 + 700 * (t + 1) := by
  have z := Nat.le_trans l1 (Nat.add_le_add_right n1 700)
  rw [Nat.mul_add, Nat.mul_one, ← Nat.add_assoc]
  exact z
/-- OUT stays -/
theorem INV_run {xs : List Int32} {t o oi dr di : Nat} {p : Int} {h h1 : ax_Hp} {s s' : mS} {tx st ys tx' st' : List Int32} (hs : scI xs h) (D : dkJ h o oi dr di p tx st ys) (V : vrA h s) (n1 : h.1 ≤ 59 + 11 * t) (n2 : h.2.1 ≤ 9731 + 700 * t) (e : ∀ a, a ≤ h.1 → a ≠ 1 → a ≠ 2 → a ≠ 5 → a ≠ 6 → a ≠ 7 → a ≠ 8 → a ≠ dr → a ≠ di → a ≠ 23 → a ≠ 59 → h1.2.2 a = h.2.2 a) (x1 : h1.2.2 1 = some (dkO o dr (Int32.ofInt (s'.1 9)))) (x2 : rowJ h1 2 3 160 tx') (x8 : rowJ h1 8 9 64 st') (xd : drJ h1 dr di) (xm : mk3 h1) (x23 : ∃ f, h1.2.2 23 = some (.inr (1, arL 160 f))) (x59 : ∃ w, h1.2.2 59 = some (.inr (2, [w]))) (l : h.1 ≤ h1.1) (l1 : h1.1 ≤ h.1 + 11) (l2 : h1.2.1 ≤ h.2.1 + 700) (M : mdJ s' tx' st' ys) (k : ∀ k, k = 10 ∨ k = 11 ∨ k = 12 ∨ k = 13 → s'.2.2.1 k = s.2.2.1 k) : INV xs (t + 1) (mH h1 s') s' := by
  have q3 := roA l1 n1
  have q4 := roB l2 n2
  have hl : 59 ≤ h.1 := D.2.2.2.2.2.2.2.2.2.2.2
  obtain ⟨O, d1, d2, d3, d4, d5, d6, d7, d8, d9, d10, d11⟩ := D
  have ob := od_b O
  have e2 := run_e O e
  exact INV_mk ((e2 0 (Nat.zero_le _) (Or.inl rfl)).trans hs) ⟨O, x1, x2, x8, rowJ_kept d4 (e2 o (by omega) (by omega)) (e2 oi (by omega) (by omega)), xd, (e2 14 (by omega) (by omega)).trans d6, (e2 4 (by omega) (by omega)).trans d7, xm, x23, x59, Nat.le_trans hl l⟩ M (vrA_kept V (fun q a b => e2 q (by omega) (by omega)) l (fun q a b => e2 q b (by omega)) k) q3 q4
/-- OUT is filled -/
theorem INV_fill {xs : List Int32} {t o oi dr di : Nat} {p : Int} {h h1 : ax_Hp} {s s' : mS} {tx st ys tx' st' : List Int32} {L : List Int} {f' : Nat → Int} (hs : scI xs h) (D : dkJ h o oi dr di p tx st ys) (V : vrA h s) (n1 : h.1 ≤ 59 + 11 * t) (n2 : h.2.1 ≤ 9731 + 700 * t) (e : ∀ a, a ≤ h.1 → a ≠ 1 → a ≠ 2 → a ≠ 5 → a ≠ 6 → a ≠ 7 → a ≠ 8 → a ≠ dr → a ≠ di → a ≠ 23 → a ≠ 59 → h1.2.2 a = h.2.2 a) (x1 : h1.2.2 1 = some (dkO dr o (Int32.ofInt (s'.1 9)))) (x2 : rowJ h1 2 3 160 tx') (x8 : rowJ h1 8 9 64 st') (xd : h1.2.2 dr = some (rwO di (Int32.ofInt L.length))) (xi : h1.2.2 di = some (.inr (1, arL 400 f'))) (xL : ∀ j : Nat, j < L.length → f' j = L.getD j 0) (hL : L.length ≤ 400) (xm : mk3 h1) (x23 : ∃ f, h1.2.2 23 = some (.inr (1, arL 160 f))) (x59 : ∃ w, h1.2.2 59 = some (.inr (2, [w]))) (l : h.1 ≤ h1.1) (l1 : h1.1 ≤ h.1 + 11) (l2 : h1.2.1 ≤ h.2.1 + 700) (B : mB s') (Y : tyT s' tx'.length (txV tx')) (S : isS s' st'.length (stB st')) (h5 : s'.1 5 = L.length) (h6 : ∀ j : Nat, j < L.length → s'.2.2.1 6 j = L.getD j 0) (cx : ∀ c ∈ tx', 32 ≤ c.toInt ∧ c.toInt ≤ 126) (cs : ∀ c ∈ st', 0 ≤ c.toInt ∧ c.toInt ≤ 255) (k : ∀ k, k = 10 ∨ k = 11 ∨ k = 12 ∨ k = 13 → s'.2.2.1 k = s.2.2.1 k) : INV xs (t + 1) (mH h1 s') s' := by
  have q3 := roA l1 n1
  have q4 := roB l2 n2
  have hl : 59 ≤ h.1 := D.2.2.2.2.2.2.2.2.2.2.2
  obtain ⟨O, d1, d2, d3, d4, d5, d6, d7, d8, d9, d10, d11⟩ := D
  have ob := od_b O
  have e2 := run_e O e
  have O' : odX dr di o oi := by
    rcases O with ⟨a, b, c, d⟩ | ⟨a, b, c, d⟩
    · exact Or.inr ⟨c, d, a, b⟩
    · exact Or.inl ⟨c, d, a, b⟩
  have gm : ∀ j, j < L.length → (L.map Int32.ofInt).getD j 0 = Int32.ofInt (L.getD j 0) := fun j hj => by
    rw [List.getD_eq_getElem?_getD, List.getElem?_map, List.getElem?_eq_getElem hj, List.getD_eq_getElem?_getD, List.getElem?_eq_getElem hj]
    rfl
  have ll : (L.map Int32.ofInt).length = L.length := List.length_map _
  have Ry : rowJ h1 dr di 400 (L.map Int32.ofInt) := rowJ_mk xd xi hL (by decide) (by omega) ll (fun j hj => by rw [gm j hj, xL j hj])
  exact INV_mk ((e2 0 (Nat.zero_le _) (Or.inl rfl)).trans hs) ⟨O', x1, x2, x8, Ry, rowJ_dr (rowJ_kept d4 (e2 o (by omega) (by omega)) (e2 oi (by omega) (by omega))), (e2 14 (by omega) (by omega)).trans d6, (e2 4 (by omega) (by omega)).trans d7, xm, x23, x59, Nat.le_trans hl l⟩ ⟨B, Y, S, by rw [ll]; exact h5, by rw [ll]; exact hL, fun j hj => by rw [ll] at hj; rw [gm j hj, h6 j hj], cx, cs⟩ (vrA_kept V (fun q a b => e2 q (by omega) (by omega)) l (fun q a b => e2 q b (by omega)) k) q3 q4
