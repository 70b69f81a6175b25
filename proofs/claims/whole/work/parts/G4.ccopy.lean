theorem allI_arL (n : Nat) (f : Nat → Int) : ax_allI (arL n f) = true := by
  unfold ax_allI arL
  refine List.all_eq_true.mpr (fun t ht => ?_)
  obtain ⟨i, _, rfl⟩ := List.mem_map.mp ht
  rfl
theorem arL_take {k n : Nat} {f : Nat → Int} (h : n ≤ k) : (arL k f).take n = arL n f := by
  unfold arL
  rw [← List.map_take, List.take_range, Nat.min_eq_left h]
theorem arL_cg {n : Nat} {f g : Nat → Int} (h : ∀ i, i < n → f i = g i) : arL n f = arL n g := by
  unfold arL
  refine List.map_congr_left (fun i hi => ?_)
  rw [h i (List.mem_range.mp hi)]
theorem copyOf_e {m a k n : Nat} {h : ax_Hp} {f : Nat → Int} (e : h.2.2 a = some (.inr (1, arL k f))) (hn : n ≤ k) (hk : k ≤ 400) (hl : a ≤ h.1) (hc : h.1 + 1 ≤ ax_CM) (hs : h.2.1 + n ≤ ax_SM) : ax_F (m + 1) 86 [ax_A (some a), ax_I (Int32.ofInt n)] h = some (.inl (some (ax_A (some (h.1 + 1)))), hN h n (.inr (1, arL n f))) := by
  rw [Arrays_copyOf_F]
  unfold Arrays_copyOf_b
  rw [pl_len e, arL_len, Option.bind_some]
  by_cases q : n = k
  · rw [if_pos (by rw [q]; rfl)]
    unfold ax_nw ax_cln ax_add
    rw [pl_arr e, Option.bind_some, if_pos (allI_arL k f), if_pos ⟨hc, by rw [arL_len]; omega⟩, arL_len, q]
    rfl
  · rw [if_neg (show ¬ Int32.ofInt n = Int32.ofNat k from by rw [show Int32.ofNat k = Int32.ofInt k from rfl, zi_eq (by omega) (by omega) (by omega) (by omega)]; omega), ax_na_e (by omega) (by omega) hc (by omega), show ((n : Nat) : Int).toNat = n by omega]
    have e' : (hN h n (.inr (1, List.replicate n (ax_I 0)))).2.2 a = some (.inr (1, arL k f)) := (hN_ne (by omega)).trans e
    have e2 : (hN h n (.inr (1, List.replicate n (ax_I 0)))).2.2 (h.1 + 1) = some (.inr (1, List.replicate n (ax_I 0))) := hN_at rfl
    rw [pl_len e', arL_len, Option.bind_some, if_pos (show Int32.ofInt n < Int32.ofNat k from by rw [show Int32.ofNat k = Int32.ofInt k from rfl, zi_lt (by omega) (by omega) (by omega) (by omega)]; omega)]
    unfold ax_acp
    rw [pl_arr e', Option.bind_some, pl_arr e2, Option.bind_some, zi_ix (by omega) (by omega), show ((n : Nat) : Int).toNat = n by omega, if_pos ⟨allI_arL k f, zi_n0 (by omega) (by omega), by rw [arL_len]; omega, by rw [List.length_replicate]; omega⟩, Option.bind_some, arL_take hn, List.drop_eq_nil_of_le (by rw [List.length_replicate]; omega), List.append_nil]
    show ax_rr (some (h.1 + 1)) (ax_set (hN h n (.inr (1, List.replicate n (ax_I 0)))) (h.1 + 1) (.inr (1, arL n f))) = _
    rw [hN_set rfl]
    rfl
theorem Schema_init_g {m a : Nat} {x1 x2 x3 x4 : Option Nat} {h : ax_Hp} {w0 w1 w2 w3 : ax_T} (ha : h.2.2 a = some (.inl (3, [w0, w1, w2, w3]))) : ax_F (m + 1) 2 [ax_A (some a), ax_A x1, ax_A x2, ax_A x3, ax_A x4] h = some (.inl none, ax_set h a (.inl (3, [ax_A x1, ax_A x2, ax_A x3, ax_A x4]))) := by
  rw [Schema_init_F]
  unfold Schema_init_b
  rw [pl_pf ha (Nat.le_of_ble_eq_true rfl), Option.bind_some, pl_pf pl_set (Nat.le_of_ble_eq_true rfl), Option.bind_some, ax_set_set, pl_pf pl_set (Nat.le_of_ble_eq_true rfl), Option.bind_some, ax_set_set, pl_pf pl_set (Nat.le_of_ble_eq_true rfl), Option.bind_some, ax_set_set]
  rfl
theorem Row_copy_e {m r i k n : Nat} {h : ax_Hp} {f : Nat → Int} (hr : h.2.2 r = some (rwO i (Int32.ofInt n))) (hi : h.2.2 i = some (.inr (1, arL k f))) (hn : n ≤ k) (hk : k ≤ 400) (lr : r ≤ h.1) (li : i ≤ h.1) (hc : h.1 + 2 ≤ ax_CM) (hs : h.2.1 + (2 + n) ≤ ax_SM) : ax_F (m + 2) 85 [ax_A (some r)] h = some (.inl (some (ax_A (some (h.1 + 1)))), hN (hN h 2 (rwO (h.1 + 2) (Int32.ofInt n))) n (.inr (1, arL n f))) := by
  rw [Row_copy_F]
  unfold Row_copy_b
  rw [ax_new_e (by omega) (show h.2.1 + 2 ≤ _ by omega)]
  have r1 : (hN h [ax_A none, ax_I 0].length (.inl (2, [ax_A none, ax_I 0]))).2.2 r = some (rwO i (Int32.ofInt n)) := (hN_ne (by omega)).trans hr
  have c1 := copyOf_e (m := m) (n := n) (h := hN h 2 (.inl (2, [ax_A none, ax_I 0]))) ((hN_ne (show i ≠ h.1 + 1 by omega)).trans hi) hn hk (show i ≤ h.1 + 1 by omega) (show h.1 + 1 + 1 ≤ _ by omega) (show h.2.1 + 2 + n ≤ _ by omega)
  rw [pl_gr r1 (v := some i) rfl, Option.bind_some, pl_gi r1 (v := Int32.ofInt n) rfl, Option.bind_some]
  refine Eq.trans (pl_cr c1) ?_
  have r2 : (hN (hN h 2 (.inl (2, [ax_A none, ax_I 0]))) n (.inr (1, arL n f))).2.2 r = some (rwO i (Int32.ofInt n)) := (hN_ne (show r ≠ h.1 + 1 + 1 by omega)).trans r1
  rw [pl_gi r2 (v := Int32.ofInt n) rfl, Option.bind_some]
  have r3 : (hN (hN h 2 (.inl (2, [ax_A none, ax_I 0]))) n (.inr (1, arL n f))).2.2 (h.1 + 1) = some (.inl (2, [ax_A none, ax_I 0])) := (hN_ne (show h.1 + 1 ≠ h.1 + 1 + 1 by omega)).trans (hN_at rfl)
  refine Eq.trans (pl_cv (Row_init_h r3)) ?_
  rw [hN_sets (show h.1 + 1 ≠ h.1 + 1 + 1 by omega), hN_set rfl]
  rfl
/-- the candidate is copied -/
theorem Sc_copyN {m n : Nat} {H : ax_Hp} {v : Int → Int} {fe fn fu : Nat → Int} (C : cdX H n v fe fn fu) (G : gdS n v fe fn fu) (hl : 59 ≤ H.1) (hc : H.1 + 6 ≤ ax_CM) (hs : H.2.1 + (6 + 4 * n) ≤ ax_SM) : ∃ H', ax_F (m + 3) 84 [ax_A (some 4)] H = some (.inl (some (ax_A (some (H.1 + 1)))), H') ∧ H'.1 = H.1 + 6 ∧ H'.2.1 = H.2.1 + (6 + 4 * n) ∧ (∀ a, a ≤ H.1 → H'.2.2 a = H.2.2 a) ∧ verX H' (H.1 + 1) n v fe fn fu := by
  obtain ⟨f, w1, w2, w3, w4, w5, w6, w7, w8, w9, w10⟩ := C
  obtain ⟨h1, e1⟩ : ∃ h1, h1 = hN H 4 (.inl (3, [ax_A none, ax_A none, ax_A none, ax_A none])) := ⟨_, rfl⟩
  obtain ⟨h2, e2⟩ : ∃ h2, h2 = hN (hN h1 2 (rwO (h1.1 + 2) (Int32.ofInt n))) n (.inr (1, arL n f)) := ⟨_, rfl⟩
  obtain ⟨h3, e3⟩ : ∃ h3, h3 = hN h2 n (.inr (1, arL n fe)) := ⟨_, rfl⟩
  obtain ⟨h4, e4⟩ : ∃ h4, h4 = hN h3 n (.inr (1, arL n fn)) := ⟨_, rfl⟩
  obtain ⟨h5, e5⟩ : ∃ h5, h5 = hN h4 n (.inr (1, arL n fu)) := ⟨_, rfl⟩
  have n1 : h1.1 = H.1 + 1 ∧ h1.2.1 = H.2.1 + 4 := by rw [e1]; exact ⟨rfl, rfl⟩
  have n2 : h2.1 = H.1 + 3 ∧ h2.2.1 = H.2.1 + 6 + n := by rw [e2]; exact ⟨by show h1.1 + 1 + 1 = _; omega, by show h1.2.1 + 2 + n = _; omega⟩
  have n3 : h3.1 = H.1 + 4 ∧ h3.2.1 = H.2.1 + 6 + n + n := by rw [e3]; exact ⟨by show h2.1 + 1 = _; omega, by show h2.2.1 + n = _; omega⟩
  have n4 : h4.1 = H.1 + 5 ∧ h4.2.1 = H.2.1 + 6 + n + n + n := by rw [e4]; exact ⟨by show h3.1 + 1 = _; omega, by show h3.2.1 + n = _; omega⟩
  have n5 : h5.1 = H.1 + 6 ∧ h5.2.1 = H.2.1 + 6 + n + n + n + n := by rw [e5]; exact ⟨by show h4.1 + 1 = _; omega, by show h4.2.1 + n = _; omega⟩
  have o1 : ∀ q, q ≤ H.1 → h1.2.2 q = H.2.2 q := fun q hq => by rw [e1]; exact hN_ne (by omega)
  have o2 : ∀ q, q ≤ H.1 + 1 → h2.2.2 q = h1.2.2 q := fun q hq => by rw [e2, hN_ne (show q ≠ h1.1 + 1 + 1 by omega), hN_ne (by omega)]
  have o3 : ∀ q, q ≤ H.1 + 3 → h3.2.2 q = h2.2.2 q := fun q hq => by rw [e3]; exact hN_ne (by omega)
  have o4 : ∀ q, q ≤ H.1 + 4 → h4.2.2 q = h3.2.2 q := fun q hq => by rw [e4]; exact hN_ne (by omega)
  have o5 : ∀ q, q ≤ H.1 + 5 → h5.2.2 q = h4.2.2 q := fun q hq => by rw [e5]; exact hN_ne (by omega)
  have p1 : h1.2.2 (H.1 + 1) = some (.inl (3, [ax_A none, ax_A none, ax_A none, ax_A none])) := by rw [e1]; exact hN_at rfl
  have p2 : h2.2.2 (H.1 + 2) = some (rwO (H.1 + 3) (Int32.ofInt n)) := by rw [e2, hN_ne (show H.1 + 2 ≠ h1.1 + 1 + 1 by omega), hN_at (by omega), show h1.1 + 2 = H.1 + 3 by omega]
  have p3 : h2.2.2 (H.1 + 3) = some (.inr (1, arL n f)) := by rw [e2]; exact hN_at (show H.1 + 3 = h1.1 + 1 + 1 by omega)
  have p4 : h3.2.2 (H.1 + 4) = some (.inr (1, arL n fe)) := by rw [e3]; exact hN_at (by omega)
  have p5 : h4.2.2 (H.1 + 5) = some (.inr (1, arL n fn)) := by rw [e4]; exact hN_at (by omega)
  have p6 : h5.2.2 (H.1 + 6) = some (.inr (1, arL n fu)) := by rw [e5]; exact hN_at (by omega)
  have rc := Row_copy_e (m := m) (h := h1) (f := f) ((o1 2 (by omega)).trans w2) ((o1 3 (by omega)).trans w3) w7 (by omega) (by omega) (by omega) (by omega) (by omega)
  rw [← e2] at rc
  have c3 := copyOf_e (m := m + 1) (n := n) (h := h2) ((o2 5 (by omega)).trans ((o1 5 (by omega)).trans w4)) w7 (by omega) (by omega) (by omega) (by omega)
  rw [← e3] at c3
  have c4 := copyOf_e (m := m + 1) (n := n) (h := h3) ((o3 6 (by omega)).trans ((o2 6 (by omega)).trans ((o1 6 (by omega)).trans w5))) w7 (by omega) (by omega) (by omega) (by omega)
  rw [← e4] at c4
  have c5 := copyOf_e (m := m + 1) (n := n) (h := h4) ((o4 7 (by omega)).trans ((o3 7 (by omega)).trans ((o2 7 (by omega)).trans ((o1 7 (by omega)).trans w6)))) w7 (by omega) (by omega) (by omega) (by omega)
  rw [← e5] at c5
  have in5 := Schema_init_g (m := m + 1) (x1 := some (H.1 + 2)) (x2 := some (H.1 + 4)) (x3 := some (H.1 + 5)) (x4 := some (H.1 + 6)) ((o5 (H.1 + 1) (by omega)).trans ((o4 (H.1 + 1) (by omega)).trans ((o3 (H.1 + 1) (by omega)).trans ((o2 (H.1 + 1) (by omega)).trans p1))))
  have sz : ax_F (m + 2) 51 [ax_A (some 2)] H = some (.inl (some (ax_I (Int32.ofInt n))), H) := by
    rw [Row_size_F]
    unfold Row_size_b
    rw [pl_gi w2 (v := Int32.ofInt n) rfl]
    rfl
  refine ⟨ax_set h5 (H.1 + 1) (.inl (3, [ax_A (some (H.1 + 2)), ax_A (some (H.1 + 4)), ax_A (some (H.1 + 5)), ax_A (some (H.1 + 6))])), ?_, n5.1, by show h5.2.1 = _; omega, fun a ha => ?_, ?_⟩
  · rw [Schema_copy_F]
    unfold Schema_copy_b
    rw [pl_gr w1 (v := some 2) rfl, Option.bind_some, pl_on w2, pl_ci sz, ax_new_e (by omega) (show H.2.1 + 4 ≤ _ by omega), show hN H [ax_A none, ax_A none, ax_A none, ax_A none].length (.inl (3, [ax_A none, ax_A none, ax_A none, ax_A none])) = h1 from e1.symm]
    rw [pl_gr ((o1 4 (by omega)).trans w1) (v := some 2) rfl, Option.bind_some, pl_on ((o1 2 (by omega)).trans w2), pl_cr rc]
    rw [pl_gr ((o2 4 (by omega)).trans ((o1 4 (by omega)).trans w1)) (v := some 5) rfl, Option.bind_some, pl_cr c3]
    rw [pl_gr ((o3 4 (by omega)).trans ((o2 4 (by omega)).trans ((o1 4 (by omega)).trans w1))) (v := some 6) rfl, Option.bind_some, pl_cr c4]
    rw [pl_gr ((o4 4 (by omega)).trans ((o3 4 (by omega)).trans ((o2 4 (by omega)).trans ((o1 4 (by omega)).trans w1)))) (v := some 7) rfl, Option.bind_some, pl_cr c5]
    rw [show h1.1 + 1 = H.1 + 2 by omega, show h2.1 + 1 = H.1 + 4 by omega, show h3.1 + 1 = H.1 + 5 by omega, show h4.1 + 1 = H.1 + 6 by omega, pl_cv in5]
    rfl
  · rw [pl_ne (by omega), o5 a (by omega), o4 a (by omega), o3 a (by omega), o2 a (by omega), o1 a ha]
  · refine ⟨pl_set, ?_, ?_, ?_, ?_, ?_, by omega, by show H.1 + 1 + 5 ≤ h5.1; omega, w7, w9, w10, G⟩
    · rw [pl_ne (by omega), show H.1 + 1 + 1 = H.1 + 2 by omega, o5 _ (by omega), o4 _ (by omega), o3 _ (by omega), p2]
      rfl
    · rw [pl_ne (by omega), show H.1 + 1 + 2 = H.1 + 3 by omega, o5 _ (by omega), o4 _ (by omega), o3 _ (by omega), p3]
      refine congrArg (fun l => some (Sum.inr (1, l))) (arL_cg (fun i hi => ?_))
      have := w8 i (by omega) (by omega)
      rw [show ((i : Nat) : Int).toNat = i by omega] at this
      exact this
    · rw [pl_ne (by omega), show H.1 + 1 + 3 = H.1 + 4 by omega, o5 _ (by omega), o4 _ (by omega), p4]
    · rw [pl_ne (by omega), show H.1 + 1 + 4 = H.1 + 5 by omega, o5 _ (by omega), p5]
    · rw [pl_ne (by omega), show H.1 + 1 + 5 = H.1 + 6 by omega, p6]
