theorem rdI_at {xs : List Int32} {n : Nat} (hn : n + 4 ≤ xs.length) (hx : xs.length ≤ 2048) : rdI xs (Int32.ofNat n) (xs.getD n 0) (xs.getD (n + 1) 0) (xs.getD (n + 2) 0) (xs.getD (n + 3) 0) := by
  intro g hg
  have at1 : ∀ k, k < xs.length → (xs.map ax_I)[k]? = some (ax_I (xs.getD k 0)) := fun k hk => by
    rw [List.getElem?_map, List.getD_eq_getElem?_getD, List.getElem?_eq_getElem hk]
    rfl
  refine ⟨⟨Int32.ofNat xs.length, by rw [pl_len hg, List.length_map], ?_⟩, pl_ldi hg (by omega) (at1 n (by omega)), ?_, ?_, ?_⟩
  · rw [zi_nat, zi_nat, show (4 : Int32) = Int32.ofInt 4 from rfl, zi_sub, zi_lt (by omega) (by omega) (by omega) (by omega)]
    omega
  · rw [pl_s1]; exact pl_ldi hg (by omega) (at1 _ (by omega))
  · rw [show Int32.ofNat n + 2 = Int32.ofNat (n + 2) from (Int32.ofNat_add n 2).symm]; exact pl_ldi hg (by omega) (at1 _ (by omega))
  · rw [show Int32.ofNat n + 3 = Int32.ofNat (n + 3) from (Int32.ofNat_add n 3).symm]; exact pl_ldi hg (by omega) (at1 _ (by omega))
/-- one turn -/
theorem stp_all {xs : List Int32} {t : Nat} {x4 o a b c : Int32} {h : ax_Hp} {s : mS} {K : Option Nat → Option Nat → Option Nat → Option Nat → Int32 → ax_Hp → ax_O} (I : INV xs t h s) (ht : t ≤ 511) (hr : rdI xs x4 o a b c) : stp xs t K x4 h := by
  have ol := op_lt o
  have cs : (o &&& 15).toInt = 0 ∨ (o &&& 15).toInt = 1 ∨ (o &&& 15).toInt = 2 ∨ (o &&& 15).toInt = 3 ∨ (o &&& 15).toInt = 4 ∨ (o &&& 15).toInt = 5 ∨ (o &&& 15).toInt = 6 ∨ (o &&& 15).toInt = 7 ∨ (o &&& 15).toInt = 8 ∨ (o &&& 15).toInt = 9 ∨ (o &&& 15).toInt = 10 ∨ (o &&& 15).toInt = 11 ∨ (o &&& 15).toInt = 12 ∨ (o &&& 15).toInt = 13 ∨ 13 < (o &&& 15).toInt := by omega
  rcases cs with q | q | q | q | q | q | q | q | q | q | q | q | q | q | q
  · exact stp_write I hr q
  · exact stp_wipe I hr q
  · exact stp_feed I hr q
  · exact stp_drain I hr q
  · exact stp_mode I ht hr q
  · exact stp_register I ht hr q
  · exact stp_versions I ht hr q
  · exact stp_reads I ht hr q
  · exact stp_print I ht hr q
  · exact stp_finger I ht hr q
  · exact stp_encode I ht hr q
  · exact stp_decode I ht hr q
  · exact stp_place I hr q
  · exact stp_out I ht hr q
  · exact stp_none I hr q
/-- the law's loop answers 1 -/
theorem wh_loop {xs : List Int32} (hx : xs.length ≤ 2048) : ∀ (r t fuel : Nat) (h : ax_Hp) (s : mS), INV xs t h s → 4 * t + 4 * r ≤ xs.length → xs.length < 4 * t + 4 * r + 4 → r < fuel → ∃ h', Law_law_lp23 (ax_F 1391) fuel (some 0) (some 1) (some 24) (some 59) (Int32.ofNat (4 * t)) h = some (.inl (some (ax_I 1)), h')
  | r, t, 0, h, s, I, h1, h2, hf => absurd hf (Nat.not_lt_zero _)
  | 0, t, fuel + 1, h, s, I, h1, h2, hf => by
    have hstep : Law_law_lp23 (ax_F 1391) (fuel + 1) = Law_law_bd23 (ax_F 1391) (Law_law_lp23 (ax_F 1391) fuel) := rfl
    refine ⟨h, ?_⟩
    rw [hstep]
    unfold Law_law_bd23
    have e3 : ax_len h (some 0) 0 = some (Int32.ofNat xs.length) := (pl_len I.2.1).trans (by rw [List.length_map])
    rw [e3, Option.bind_some, if_pos (show Int32.ofNat xs.length - 4 < Int32.ofNat (4 * t) from by rw [zi_nat, zi_nat, show (4 : Int32) = Int32.ofInt 4 from rfl, zi_sub, zi_lt (by omega) (by omega) (by omega) (by omega)]; omega)]
    exact pl_rz1
  | r + 1, t, fuel + 1, h, s, I, h1, h2, hf => by
    have hstep : Law_law_lp23 (ax_F 1391) (fuel + 1) = Law_law_bd23 (ax_F 1391) (Law_law_lp23 (ax_F 1391) fuel) := rfl
    obtain ⟨g, s2, e, J⟩ := stp_all (K := Law_law_lp23 (ax_F 1391) fuel) I (by omega) (rdI_at (n := 4 * t) (by omega) hx)
    obtain ⟨h', q⟩ := wh_loop hx r (t + 1) fuel g s2 J (by omega) (by omega) (by omega)
    refine ⟨h', ?_⟩
    rw [hstep, e, show Int32.ofNat (4 * t) + 4 = Int32.ofNat (4 * (t + 1)) from by rw [Nat.mul_add]; exact (Int32.ofNat_add (4 * t) 4).symm]
    exact q
theorem wh_all (xs : List Int32) (hx : xs.length ≤ 2048) : ∃ h', Law_law_lp23 (ax_F 1391) ax_fuel (some 0) (some 1) (some 24) (some 59) 0 (ax_ls 9731 ax_L0 (some (.inr (0, xs.map ax_I)))) = some (.inl (some (ax_I 1)), h') :=
  wh_loop hx (xs.length / 4) 0 ax_fuel _ s0 (INV_start xs) (by omega) (by omega) (by unfold ax_fuel; omega)
