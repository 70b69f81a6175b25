def byL (v : Int64) : Nat → Nat → List Int32
  | 0, _ => []
  | k + 1, i => byC v i :: byL v k (i + 1)
theorem byL_len (v : Int64) : ∀ k i, (byL v k i).length = k
  | 0, _ => rfl
  | k + 1, i => by
    show (byL v k (i + 1)).length + 1 = k + 1
    rw [byL_len v k (i + 1)]
theorem Desk_feed_l {m K : Nat} {v : Int64} {fs : List ax_T} (hfs : fs[2]? = some (ax_A (some 8))) (hK : K ≤ 8) : ∀ (k i fuel : Nat) (h : ax_Hp) (xs : List Int32), i + k = K → k < fuel → h.2.2 1 = some (.inl (8, fs)) → rowIs h 8 9 64 xs → xs.length + k ≤ 64 →
    ∃ h', Desk_feed_lp27 (ax_F (m + 1)) fuel (some 1) v (Int32.ofNat K) (Int32.ofNat i) h = some (.inl (some (ax_I 1)), h') ∧ rowIs h' 8 9 64 (xs ++ byL v k i) ∧ but2 h h' 8 9
  | 0, i, fuel + 1, h, xs, hik, _, hd, R, hn => by
    have hi : i = K := by omega
    subst hi
    refine ⟨h, ?_, by rw [show byL v 0 i = [] from rfl, List.append_nil]; exact R, but2_refl _ _ _⟩
    show Desk_feed_bd27 _ _ _ _ _ _ _ = _
    unfold Desk_feed_bd27
    rw [if_pos ((pl_le (by omega) (by omega)).mpr (Nat.le_refl _)), pl_rz1]
  | k + 1, i, fuel + 1, h, xs, hik, hf, hd, R, hn => by
    have hstep : Desk_feed_lp27 (ax_F (m + 1)) (fuel + 1) (some 1) v (Int32.ofNat K) (Int32.ofNat i) h = Desk_feed_bd27 (ax_F (m + 1)) (Desk_feed_lp27 (ax_F (m + 1)) fuel) (some 1) v (Int32.ofNat K) (Int32.ofNat i) h := rfl
    rw [hstep]
    unfold Desk_feed_bd27
    obtain ⟨h1, q1, q2, q3⟩ := Row_add_i (m := m) (v := byC v i) R (by omega)
    have hd1 : h1.2.2 1 = some (.inl (8, fs)) := (q3.2.2 1 (by decide) (by decide)).trans hd
    obtain ⟨h2, p1, p2, p3⟩ := Desk_feed_l (m := m) (v := v) hfs hK k (i + 1) fuel h1 (xs ++ [byC v i]) (by omega) (by omega) hd1 q2 (by rw [List.length_append, List.length_singleton]; omega)
    refine ⟨h2, ?_, by rw [List.append_assoc] at p2; exact p2, q3.trans p3⟩
    rw [if_neg (fun z => absurd ((pl_le (by omega) (by omega)).mp z) (by omega)), pl_gr hd hfs, Option.bind_some, pl_ci Desk_byteOf_e, pl_on (rowIs_obj R), pl_ci q1, pl_s1]
    exact p1
  | 0, _, 0, _, _, _, hf, _, _, _ => absurd hf (by omega)
  | _ + 1, _, 0, _, _, _, hf, _, _, _ => absurd hf (by omega)
/-- does feed take the n bytes, len of them being there? -/
def fdOk (n : Int32) (len : Nat) : Bool := !(decide (n < 1)) && !(decide (8 < n)) && decide (len + n.toNatClampNeg ≤ 64)
theorem pl_n8 {n : Int32} (h1 : ¬ n < 1) (h2 : ¬ 8 < n) : n = Int32.ofNat n.toNatClampNeg ∧ 1 ≤ n.toNatClampNeg ∧ n.toNatClampNeg ≤ 8 := by
  have g1 : (1 : Int) ≤ n.toInt := by
    have := Int32.le_iff_toInt_le.mp (Int32.not_lt.mp h1)
    simpa using this
  have g2 : n.toInt ≤ 8 := by
    have := Int32.le_iff_toInt_le.mp (Int32.not_lt.mp h2)
    simpa using this
  have g3 : n.toNatClampNeg = n.toInt.toNat := rfl
  refine ⟨(Int32.ofNat_toNatClampNeg n ?_).symm, by omega, by omega⟩
  refine Int32.le_iff_toInt_le.mpr ?_
  have z : (0 : Int32).toInt = 0 := by decide
  omega
theorem Desk_feed_e {m : Nat} {v : Int64} {n : Int32} {fs : List ax_T} {h : ax_Hp} {xs : List Int32} (hd : h.2.2 1 = some (.inl (8, fs))) (hfs : fs[2]? = some (ax_A (some 8))) (R : rowIs h 8 9 64 xs) :
    ∃ h', ax_F (m + 2) 11 [ax_A (some 1), ax_L v, ax_I n] h = some (.inl (some (ax_I (if fdOk n xs.length = true then 1 else 0))), h') ∧ rowIs h' 8 9 64 (if fdOk n xs.length = true then xs ++ byL v n.toNatClampNeg 0 else xs) ∧ but2 h h' 8 9 := by
  have hl := rowIs_le R
  rw [Desk_feed_F]
  unfold Desk_feed_b
  by_cases h1 : n < 1
  · have hw : ¬ fdOk n xs.length = true := by
      unfold fdOk
      simp [h1]
    rw [if_pos h1, if_neg hw, if_neg hw, pl_rz0]
    exact ⟨h, rfl, R, but2_refl _ _ _⟩
  · rw [if_neg h1]
    by_cases h2 : 8 < n
    · have hw : ¬ fdOk n xs.length = true := by
        unfold fdOk
        simp [h2]
      rw [if_pos h2, if_neg hw, if_neg hw, pl_rz0]
      exact ⟨h, rfl, R, but2_refl _ _ _⟩
    · obtain ⟨e1, e2, e3⟩ := pl_n8 h1 h2
      rw [if_neg h2, pl_gr hd hfs, Option.bind_some, pl_on (rowIs_obj R), pl_ci (Row_room_i R)]
      have hiff : n ≤ Int32.ofNat (64 - xs.length) ↔ n.toNatClampNeg ≤ 64 - xs.length := by
        have := pl_le (n := n.toNatClampNeg) (m := 64 - xs.length) (by omega) (by omega)
        rw [← e1] at this
        exact this
      by_cases h3 : xs.length + n.toNatClampNeg ≤ 64
      · have hw : fdOk n xs.length = true := by
          unfold fdOk
          simp [h1, h2, h3]
        rw [if_pos (hiff.mpr (by omega)), if_pos hw, if_pos hw]
        have := Desk_feed_l (m := m) (v := v) hfs e3 n.toNatClampNeg 0 1000000000000 h xs (by omega) (by omega) hd R h3
        rw [← e1] at this
        exact this
      · have hw : ¬ fdOk n xs.length = true := by
          unfold fdOk
          simp [h3]
        rw [if_neg (fun z => h3 (by have := hiff.mp z; omega)), if_neg hw, if_neg hw, pl_rz0]
        exact ⟨h, rfl, R, but2_refl _ _ _⟩
