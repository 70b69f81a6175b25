theorem mIs_of {h h' : ax_Hp} {s : mS} (e : h = mH h s) (k : ∀ q, 24 ≤ q → q ≤ 58 → h'.2.2 q = h.2.2 q) : h' = mH h' s := by
  refine mIs_eq ((k 24 (by decide) (by decide)).trans ?_) (fun q h1 h2 => (k q (by omega) h2).trans ?_)
  · rw [e]; rfl
  · rw [e]
    show (if q = 24 then _ else if 25 ≤ q ∧ q ≤ 58 then _ else _) = _
    rw [if_neg (by omega), if_pos ⟨h1, h2⟩]
theorem regH_o {h : ax_Hp} {n : Int32} {q : Nat} (hq : q ≤ h.1) : (regH h n).2.2 q = h.2.2 q := by
  unfold regH
  rw [hN_ne (show q ≠ h.1 + 4 + 1 by omega), hN_ne (show q ≠ h.1 + 3 + 1 by omega), hN_ne (show q ≠ h.1 + 2 + 1 by omega), hN_ne (show q ≠ h.1 + 1 + 1 by omega), hN_ne (show q ≠ h.1 + 1 by omega)]
theorem regH_c {h : ax_Hp} {n : Int32} : (regH h n).2.2 (h.1 + 1) = some (.inl (0, [ax_A (some 3), ax_I n, ax_I 0])) := by
  unfold regH
  rw [hN_ne (show h.1 + 1 ≠ h.1 + 4 + 1 by omega), hN_ne (show h.1 + 1 ≠ h.1 + 3 + 1 by omega), hN_ne (show h.1 + 1 ≠ h.1 + 2 + 1 by omega), hN_ne (show h.1 + 1 ≠ h.1 + 1 + 1 by omega), hN_at rfl]
theorem regH_r {h : ax_Hp} {n : Int32} : (regH h n).2.2 (h.1 + 2) = some (.inl (4, [ax_A (some (h.1 + 1)), ax_A (some 4), ax_A (some (h.1 + 5))])) := by
  unfold regH
  rw [hN_ne (show h.1 + 2 ≠ h.1 + 4 + 1 by omega), hN_ne (show h.1 + 2 ≠ h.1 + 3 + 1 by omega), hN_ne (show h.1 + 2 ≠ h.1 + 2 + 1 by omega)]
  exact hN_at rfl
theorem arL_of {n : Nat} {es : List Int32} (h : es.length = n) : es.map ax_I = arL n (fun i => (es[i]?.getD 0).toInt) := by
  refine List.ext_getElem? fun j => ?_
  by_cases hj : j < n
  · rw [arL_at _ hj, List.getElem?_map, List.getElem?_eq_getElem (by omega), Option.map_some, Option.getD_some, Int32.ofInt_toInt]
  · rw [List.getElem?_eq_none (by rw [List.length_map]; omega), List.getElem?_eq_none (by rw [arL_len]; omega)]
theorem p1_register (o a b c : Int32) (K : Option Nat → Option Nat → Option Nat → Option Nat → Int32 → ax_Hp → ax_O) (op : (o &&& 15).toInt = 5) : ∃ h2, Law_law_bd23 (ax_F 1391) K (some 0) (some 1) (some 24) (some 59) 0 (hS o a b c) = K (some 0) (some 1) (some 24) (some 59) 4 h2 ∧ scI [o, a, b, c] h2 := by
  have hs : scI [o, a, b, c] (hS o a b c) := rfl
  have D := dkI_start (some (.inr (0, [o, a, b, c].map ax_I)))
  have S := s0_start (some (.inr (0, [o, a, b, c].map ax_I)))
  change dkI (hS o a b c) _ _ _ _ _ at D
  change hS o a b c = mH (hS o a b c) s0 at S
  obtain ⟨za, ea, za0, za1⟩ := zi_of a
  have hcm : (hS o a b c).1 + 1 ≤ ax_CM := show 59 + 1 ≤ 600002 by decide
  have hsm : (hS o a b c).2.1 + 6 ≤ ax_SM := show 9731 + 6 ≤ 7302232 by decide
  have h1 : (hS o a b c).1 = 59 := rfl
  have hz := isSub_z za0 za1
  rw [← ea] at hz
  by_cases q : isSub a = true
  · have q' := hz.mp q
    have arr : ∀ x, x = 5 ∨ x = 6 ∨ x = 7 → ∃ f, (regH (hS o a b c) 0).2.2 x = some (.inr (1, arL 160 f)) := fun x hx => by
      obtain ⟨es, l, e⟩ := D.2.2.2.2.2.2.2 x (by omega)
      exact ⟨_, (regH_o (by omega)).trans (e.trans (congrArg (fun y => some (Sum.inr (1, y))) (arL_of l)))⟩
    obtain ⟨f1, a1⟩ := arr 5 (Or.inl rfl)
    obtain ⟨f2, a2⟩ := arr 6 (Or.inr (Or.inl rfl))
    obtain ⟨f3, a3⟩ := arr 7 (Or.inr (Or.inr rfl))
    have w := SchemaReader_whole_no (m := 1385) (h := regH (hS o a b c) 0) (a := 61) (c := 60) (sc := 4) (t := 2) (e := 5) (n := 6) (u := 7) (k := 160) (f1 := f1) (f2 := f2) (f3 := f3) regH_r regH_c ((regH_o (by omega)).trans D.2.2.2.2.2.2.1) a1 a2 a3 (by decide) (by decide) (by decide) (by decide) (by decide) (by decide) (by decide) (by decide) (by decide) (by decide) (by decide) (by decide)
    generalize hg : ax_set (ax_set (ax_set (regH (hS o a b c) 0) 5 (.inr (1, arL 160 fun _ => -1))) 6 (.inr (1, arL 160 fun _ => -1))) 7 (.inr (1, arL 160 fun _ => 0)) = g at w
    have go : ∀ x, x ≠ 5 → x ≠ 6 → x ≠ 7 → g.2.2 x = (regH (hS o a b c) 0).2.2 x := fun x c1 c2 c3 => by rw [← hg]; exact (pl_ne c3).trans ((pl_ne c2).trans (pl_ne c1))
    have g1 : g.1 = 64 := by rw [← hg]; rfl
    have g2 : g.2.1 = 9743 := by rw [← hg]; rfl
    have e := Desk_register_no (m := 1386) (n := a) (len := 0) (p := 0) (h := hS o a b c) (h2 := g) (w0 := ax_A (some 3)) (w1 := ax_I 0) D.1 rfl rfl rfl D.2.2.2.2.2.1 q ((ls_at 1).trans rfl) (show 59 ≤ 59 by decide) (show 59 + 5 ≤ 600002 by decide) (show 9731 + 12 ≤ 7302232 by decide) w ((go _ (show 60 ≠ 5 by decide) (show 60 ≠ 6 by decide) (show 60 ≠ 7 by decide)).trans regH_c) ((go 1 (by decide) (by decide) (by decide)).trans ((regH_o (by omega)).trans D.1)) rfl (by rw [g1]; decide) (by rw [g2]; decide)
    generalize hk : thr (ax_set g 1 (.inl (8, List.set _ 7 (ax_I 0)))) = k at e
    have ko : ∀ x, x ≤ 59 → x ≠ 5 → x ≠ 6 → x ≠ 7 → x ≠ 1 → k.2.2 x = (hS o a b c).2.2 x := fun x c0 c1 c2 c3 c4 => by
      rw [← hk]
      exact (thr_at (h := ax_set g 1 _) (show x ≤ g.1 by omega)).trans ((pl_ne c4).trans ((go x c1 c2 c3).trans (regH_o (by omega))))
    have e1 : ax_F 1391 18 [ax_A (some 1), ax_I a, ax_A (some 59)] (hS o a b c) = some (.inl (some (ax_I 1)), k) := by
      rw [Law_register_F]
      unfold Law_register_b
      rw [pl_on D.1, pl_cx_x (show ax_F 1390 19 [ax_A (some 1), ax_I a] (hS o a b c) = _ from e), if_pos rfl]
      rfl
    have T : k = mH k s0 := mIs_of S (fun x c1 c2 => ko x (by omega) (by omega) (by omega) (by omega) (by omega))
    obtain ⟨s', e2, e3⟩ := Model_register_0 (m := 1386) (h := k) (s := s0) q'.1 q'.2 rfl (fun i => show (0 : Int) ≤ 0 ∧ (0 : Int) < 65536 from ⟨by decide, by decide⟩)
    rw [← ea] at e2
    have k1 : scI [o, a, b, c] k := (ko 0 (by decide) (by decide) (by decide) (by decide) (by decide)).trans hs
    exact ⟨_, turn_5 (kk := 1) K (rdI_0 o a b c) op hs e1 k1 (T ▸ obM_mH _ _) ((congrArg _ T).trans e2) rfl ((mF_0 _).trans (by rw [e3]; rfl)) (fun q => absurd q (by decide)), scI_mH k1⟩
  · have T : thr (hS o a b c) = mH (thr (hS o a b c)) s0 := (congrArg thr S).trans (thr_mH (show 58 ≤ 59 by decide))
    have e1 : ax_F 1391 18 [ax_A (some 1), ax_I a, ax_A (some 59)] (hS o a b c) = some (.inl (some (ax_I 1)), thr (hS o a b c)) := by
      rw [Law_register_F]
      unfold Law_register_b
      have e : ax_F 1390 19 [ax_A (some 1), ax_I a] (hS o a b c) = some (.inr (0, (hS o a b c).1 + 1), thr (hS o a b c)) := by
        rw [Desk_register_F]
        unfold Desk_register_b
        rw [pl_on D.1, pl_cr_x (Desk_subjectAt_no q hcm hsm)]
      rw [pl_on D.1, pl_cx_x e, if_pos rfl]
      rfl
    have e2 := Model_register_ns (m := 1389) (h := thr (hS o a b c)) (s := s0) za0 za1 (fun z => q (hz.mpr z))
    rw [← ea] at e2
    exact ⟨_, turn_5 K (rdI_0 o a b c) op hs e1 (scI_thr hs) (T ▸ obM_mH _ _) ((congrArg _ T).trans e2) rfl (mF_0 _) (fun q => absurd q (by decide)), scI_mH (scI_thr hs)⟩
theorem op_lt (o : Int32) : 0 ≤ (o &&& 15).toInt ∧ (o &&& 15).toInt ≤ 15 := by
  have h : (o &&& 15).toBitVec = o.toBitVec &&& 15#32 := rfl
  have e : (o &&& 15).toInt = (o.toBitVec &&& 15#32).toInt := by rw [← h]; rfl
  have l : (o.toBitVec &&& 15#32).toNat ≤ 15 := by
    rw [BitVec.toNat_and]
    exact Nat.and_le_right
  rw [e, BitVec.toInt_eq_toNat_of_lt (by omega)]
  omega
theorem p1_all (xs : List Int32) (hx : xs.length ≤ 4) : ∃ h', Law_law_lp23 (ax_F 1391) ax_fuel (some 0) (some 1) (some 24) (some 59) 0 (ax_ls 9731 ax_L0 (some (.inr (0, xs.map ax_I)))) = some (.inl (some (ax_I 1)), h') := by
  have hstep : ∀ f, Law_law_lp23 (ax_F 1391) (f + 1) = Law_law_bd23 (ax_F 1391) (Law_law_lp23 (ax_F 1391) f) := fun f => rfl
  have fin : ∀ (f : Nat) (x4 : Int32) (h : ax_Hp), scI xs h → Int32.ofNat xs.length - 4 < x4 → Law_law_lp23 (ax_F 1391) (f + 1) (some 0) (some 1) (some 24) (some 59) x4 h = some (.inl (some (ax_I 1)), h) := fun f x4 h e1 e2 => by
    rw [hstep]
    unfold Law_law_bd23
    have e3 : ax_len h (some 0) 0 = some (Int32.ofNat xs.length) := (pl_len e1).trans (by rw [List.length_map])
    rw [e3, Option.bind_some, if_pos e2]
    exact pl_rz1
  rw [show ax_fuel = 999999999998 + 1 + 1 from rfl]
  by_cases c4 : xs.length < 4
  · refine ⟨_, fin _ 0 _ rfl ?_⟩
    have : xs.length = 0 ∨ xs.length = 1 ∨ xs.length = 2 ∨ xs.length = 3 := by omega
    rcases this with e | e | e | e <;> rw [e] <;> decide
  · obtain ⟨o, a, b, c, rfl⟩ : ∃ o a b c, xs = [o, a, b, c] := by
      match xs, hx, c4 with
      | [o, a, b, c], _, _ => exact ⟨o, a, b, c, rfl⟩
      | [], _, h => exact absurd (by decide) h
      | [_], _, h => exact absurd (Nat.le_of_ble_eq_true rfl) h
      | [_, _], _, h => exact absurd (Nat.le_of_ble_eq_true rfl) h
      | [_, _, _], _, h => exact absurd (Nat.le_of_ble_eq_true rfl) h
      | _ :: _ :: _ :: _ :: _ :: _, h, _ => exact absurd h (by simp only [List.length_cons]; omega)
    rw [hstep]
    generalize hK : Law_law_lp23 (ax_F 1391) (999999999998 + 1) = K
    have go : ∃ h2, Law_law_bd23 (ax_F 1391) K (some 0) (some 1) (some 24) (some 59) 0 (hS o a b c) = K (some 0) (some 1) (some 24) (some 59) 4 h2 ∧ scI [o, a, b, c] h2 := by
      have ol := op_lt o
      have cs : (o &&& 15).toInt = 4 ∨ (o &&& 15).toInt = 5 ∨ (o &&& 15).toInt = 6 ∨ ((o &&& 15).toInt = 0 ∨ (o &&& 15).toInt = 1 ∨ (o &&& 15).toInt = 2 ∨ (o &&& 15).toInt = 3 ∨ (o &&& 15).toInt = 12) ∨ ((o &&& 15).toInt = 7 ∨ (o &&& 15).toInt = 8 ∨ (o &&& 15).toInt = 9 ∨ (o &&& 15).toInt = 10 ∨ (o &&& 15).toInt = 11 ∨ (o &&& 15).toInt = 13) ∨ 13 < (o &&& 15).toInt := by omega
      rcases cs with q | q | q | q | q | q
      · exact p1_mode o a b c K q
      · exact p1_register o a b c K q
      · exact p1_versions o a b c K q
      · exact p1_plain o a b c K q
      · exact p1_throw o a b c K q
      · exact ⟨hS o a b c, turn_d K (rdI_0 o a b c) (fun j _ _ => by omega) rfl, rfl⟩
    obtain ⟨h2, e1, e2⟩ := go
    refine ⟨h2, Eq.trans e1 ?_⟩
    rw [← hK]
    exact fin _ 4 h2 e2 (by show (4 : Int32) - 4 < 4; decide)
