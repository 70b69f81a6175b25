/-- the i-th byte of a long, as the reference takes it -/
def byM (v : Int64) (i : Nat) : Int32 := (((v >>> ((8 * Int32.ofNat i).toInt64 &&& 63)) &&& 255).toInt32)
theorem by_bits (x : BitVec 64) (n : Nat) (hn : n ≤ 56) : ((x.sshiftRight n) &&& 255#64).signExtend 32 = ((x >>> n).signExtend 32) &&& 255#32 := by
  rw [BitVec.signExtend_eq_setWidth_of_le _ (by decide), BitVec.signExtend_eq_setWidth_of_le _ (by decide)]
  apply BitVec.eq_of_getLsbD_eq
  intro j hj
  simp only [BitVec.getLsbD_setWidth, BitVec.getLsbD_and, BitVec.getLsbD_sshiftRight, BitVec.getLsbD_ushiftRight, BitVec.getLsbD_ofNat]
  by_cases hj8 : j < 8
  · have h1 : n + j < 64 := by omega
    have h2 : ¬ 64 ≤ j := by omega
    have h3 : j < 64 := by omega
    simp [h1, h2, h3, hj]
  · have t : Nat.testBit 255 j = false := Nat.testBit_lt_two_pow (Nat.lt_of_lt_of_le (by decide : 255 < 2 ^ 8) (Nat.pow_le_pow_right (by decide) (by omega)))
    simp [t]
theorem by_amt : ∀ i, i < 8 → (((8 * Int32.ofNat i).toInt64 &&& 63).toBitVec.smod 64).toNat = 8 * i ∧ (((8 * Int32.ofNat i).toInt64.toUInt64 &&& Int64.toUInt64 63).toBitVec % 64).toNat = 8 * i := by decide +kernel
theorem by_eq (v : Int64) (i : Nat) (hi : i < 8) : byM v i = byC v i := by
  obtain ⟨a1, a2⟩ := by_amt i hi
  apply Int32.toBitVec_inj.mp
  have e1 : (byM v i).toBitVec = ((v.toBitVec.sshiftRight (8 * i)) &&& 255#64).signExtend 32 := by
    rw [← a1]
    rfl
  have e2 : (byC v i).toBitVec = ((v.toBitVec >>> (8 * i)).signExtend 32) &&& 255#32 := by
    rw [← a2]
    rfl
  rw [e1, e2]
  exact by_bits _ _ (by omega)
/-- the array at a (kind kd, room for cap) begins with xs -/
def arrIs (h : ax_Hp) (a kd cap : Nat) (xs : List Int32) : Prop := ∃ es : List ax_T, h.2.2 a = some (.inr (kd, es)) ∧ es.length = cap ∧ es.take xs.length = xs.map ax_I ∧ xs.length ≤ cap
theorem arrIs_kept {h h' : ax_Hp} {a kd cap : Nat} {xs : List Int32} (R : arrIs h a kd cap xs) (e : h'.2.2 a = h.2.2 a) : arrIs h' a kd cap xs := by
  obtain ⟨es, r1, r2⟩ := R
  exact ⟨es, e.trans r1, r2⟩
theorem arrIs_put {h : ax_Hp} {a kd cap : Nat} {xs : List Int32} {v : Int32} (R : arrIs h a kd cap xs) (hc : cap < 2147483648) (hn : xs.length < cap) : ∃ es : List ax_T, ax_st h (some a) kd (Int32.ofNat xs.length) (ax_I v) = some (ax_set h a (.inr (kd, es))) ∧ arrIs (ax_set h a (.inr (kd, es))) a kd cap (xs ++ [v]) := by
  obtain ⟨es, r1, r2, r3, r4⟩ := R
  have hlt : xs.length < es.length := by omega
  refine ⟨_, pl_st r1 (by omega) hlt, _, pl_set, by rw [List.length_set]; exact r2, ?_, by rw [List.length_append, List.length_singleton]; omega⟩
  rw [List.length_append, List.length_singleton, List.take_succ, List.take_set_of_le (Nat.le_refl _), r3, List.getElem?_set_self hlt, List.map_append]
  rfl
/-- the fields of the reference, but for the k-th -/
def butF (fs fs' : List ax_T) (k : Nat) : Prop := fs'.length = fs.length ∧ ∀ j, j ≠ k → fs'[j]? = fs[j]?
theorem butF_set {fs : List ax_T} {k : Nat} {v : ax_T} : butF fs (fs.set k v) k := ⟨List.length_set, fun _ h => List.getElem?_set_ne (Ne.symm h)⟩
theorem butF.trans {fs fs' fs'' : List ax_T} {k : Nat} (u : butF fs fs' k) (w : butF fs' fs'' k) : butF fs fs'' k := ⟨w.1.trans u.1, fun j h => (w.2 j h).trans (u.2 j h)⟩
theorem Model_feed_l {m K : Nat} {v : Int64} (hK : K ≤ 8) : ∀ (k i fuel : Nat) (h : ax_Hp) (fs : List ax_T) (xs : List Int32), i + k = K → k < fuel → h.2.2 24 = some (.inl (9, fs)) → fs.length = 50 → fs[3]? = some (ax_I (Int32.ofNat xs.length)) → fs[4]? = some (ax_A (some 26)) → arrIs h 26 1 64 xs → xs.length + k ≤ 64 →
    ∃ h' fs', Model_feed_lp32 (ax_F (m + 1)) fuel (some 24) v (Int32.ofNat K) (Int32.ofNat i) h = some (.inl (some (ax_I 1)), h') ∧ h'.2.2 24 = some (.inl (9, fs')) ∧ butF fs fs' 3 ∧ fs'[3]? = some (ax_I (Int32.ofNat (xs.length + k))) ∧ arrIs h' 26 1 64 (xs ++ byL v k i) ∧ but2 h h' 24 26
  | 0, i, fuel + 1, h, fs, xs, hik, _, hm, hl, h3, h4, R, hn => by
    have hi : i = K := by omega
    subst hi
    refine ⟨h, fs, ?_, hm, ⟨rfl, fun _ _ => rfl⟩, h3, by rw [show byL v 0 i = [] from rfl, List.append_nil]; exact R, but2_refl _ _ _⟩
    show Model_feed_bd32 _ _ _ _ _ _ _ = _
    unfold Model_feed_bd32
    rw [if_pos ((pl_le (by omega) (by omega)).mpr (Nat.le_refl _)), pl_rz1]
  | k + 1, i, fuel + 1, h, fs, xs, hik, hf, hm, hl, h3, h4, R, hn => by
    have hstep : Model_feed_lp32 (ax_F (m + 1)) (fuel + 1) (some 24) v (Int32.ofNat K) (Int32.ofNat i) h = Model_feed_bd32 (ax_F (m + 1)) (Model_feed_lp32 (ax_F (m + 1)) fuel) (some 24) v (Int32.ofNat K) (Int32.ofNat i) h := rfl
    rw [hstep]
    unfold Model_feed_bd32
    have hbm : (((v >>> ((8 * Int32.ofNat i).toInt64 &&& 63)) &&& 255).toInt32) = byC v i := by_eq v i (by omega)
    obtain ⟨es, q1, q2⟩ := arrIs_put (v := byC v i) R (by omega) (by omega)
    have hm1 : (ax_set h 26 (.inr (1, es))).2.2 24 = some (.inl (9, fs)) := (pl_ne (by decide)).trans hm
    have hs3 : (fs.set 3 (ax_I (Int32.ofNat (xs.length + 1))))[3]? = some (ax_I (Int32.ofNat (xs.length + 1))) := List.getElem?_set_self (by omega)
    obtain ⟨h2, fs2, p1, p2, p3, p4, p5, p6⟩ := Model_feed_l (m := m) (v := v) hK k (i + 1) fuel (ax_set (ax_set h 26 (.inr (1, es))) 24 (.inl (9, fs.set 3 (ax_I (Int32.ofNat (xs.length + 1)))))) (fs.set 3 (ax_I (Int32.ofNat (xs.length + 1)))) (xs ++ [byC v i]) (by omega) (by omega) pl_set (by rw [List.length_set]; exact hl) (by rw [List.length_append, List.length_singleton]; exact hs3) ((List.getElem?_set_ne (by decide)).trans h4) (arrIs_kept q2 (pl_ne (by decide))) (by rw [List.length_append, List.length_singleton]; omega)
    refine ⟨h2, fs2, ?_, p2, butF_set.trans p3, ?_, by rw [List.append_assoc] at p5; exact p5, p6.1, p6.2.1, fun q g1 g2 => (p6.2.2 q g1 g2).trans ((pl_ne g1).trans (pl_ne g2))⟩
    · rw [if_neg (fun z => absurd ((pl_le (by omega) (by omega)).mp z) (by omega)), pl_gr hm h4, Option.bind_some, pl_gi hm h3, Option.bind_some, hbm, q1, Option.bind_some, pl_gi hm1 h3, Option.bind_some, pl_pf hm1 (by omega), Option.bind_some, pl_s1, pl_s1]
      exact p1
    · rw [p4, List.length_append, List.length_singleton, Nat.add_assoc, Nat.add_comm 1 k]
  | 0, _, 0, _, _, _, _, hf, _, _, _, _, _, _ => absurd hf (by omega)
  | _ + 1, _, 0, _, _, _, _, hf, _, _, _, _, _, _ => absurd hf (by omega)
