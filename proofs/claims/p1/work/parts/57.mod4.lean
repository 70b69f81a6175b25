theorem okAll_s {v : Int64} {k i : Nat} (h : okAll v (k + 1) i = true) : (byC v i = 0 ∨ okC (byC v i) = true) ∧ okAll v k (i + 1) = true := by
  have h : ((decide (byC v i = 0) || okC (byC v i)) && okAll v k (i + 1)) = true := h
  rw [Bool.and_eq_true, Bool.or_eq_true, decide_eq_true_eq] at h
  exact h
theorem Model_write_l2 {m : Nat} {v : Int64} : ∀ (k i fuel : Nat) (h : ax_Hp) (fs : List ax_T) (xs : List Int32), i + k = 8 → k < fuel → okAll v k i = true → h.2.2 24 = some (.inl (9, fs)) → fs.length = 50 → fs[1]? = some (ax_I (Int32.ofNat xs.length)) → fs[2]? = some (ax_A (some 25)) → arrIs h 25 3 160 xs → xs.length + (nzC v k i).length ≤ 160 →
    ∃ h' fs', Model_write_lp88 (ax_F (m + 1)) fuel (some 24) v (Int32.ofNat i) h = some (.inl (some (ax_I 1)), h') ∧ h'.2.2 24 = some (.inl (9, fs')) ∧ butF fs fs' 1 ∧ fs'[1]? = some (ax_I (Int32.ofNat (xs ++ nzC v k i).length)) ∧ arrIs h' 25 3 160 (xs ++ nzC v k i) ∧ but2 h h' 24 25
  | 0, i, fuel + 1, h, fs, xs, hik, _, _, hm, hl, h1, h2, R, hn => by
    have hi : i = 8 := by omega
    subst hi
    refine ⟨h, fs, ?_, hm, ⟨rfl, fun _ _ => rfl⟩, by rw [show nzC v 0 8 = [] from rfl, List.append_nil]; exact h1, by rw [show nzC v 0 8 = [] from rfl, List.append_nil]; exact R, but2_refl _ _ _⟩
    show Model_write_bd88 _ _ _ _ _ _ = _
    unfold Model_write_bd88
    rw [if_pos (by decide), pl_rz1]
  | k + 1, i, fuel + 1, h, fs, xs, hik, hf, hok, hm, hl, h1, h2, R, hn => by
    have hstep : Model_write_lp88 (ax_F (m + 1)) (fuel + 1) (some 24) v (Int32.ofNat i) h = Model_write_bd88 (ax_F (m + 1)) (Model_write_lp88 (ax_F (m + 1)) fuel) (some 24) v (Int32.ofNat i) h := rfl
    rw [hstep]
    unfold Model_write_bd88 Model_write_jn136
    have hbm : (((v >>> ((8 * Int32.ofNat i).toInt64 &&& 63)) &&& 255).toInt32) = byC v i := by_eq v i (by omega)
    obtain ⟨o1, o2⟩ := okAll_s hok
    rw [if_neg (pl_8 hik), hbm]
    by_cases hb : byC v i = 0
    · have e : nzC v (k + 1) i = nzC v k (i + 1) := by
        show (if byC v i = 0 then [] else [byC v i]) ++ _ = _
        rw [if_pos hb]; rfl
      rw [if_pos hb, pl_s1]
      rw [e] at hn ⊢
      exact Model_write_l2 k (i + 1) fuel h fs xs (by omega) (by omega) o2 hm hl h1 h2 R hn
    · have e : nzC v (k + 1) i = byC v i :: nzC v k (i + 1) := by
        show (if byC v i = 0 then [] else [byC v i]) ++ _ = _
        rw [if_neg hb]; rfl
      rw [e] at hn ⊢
      rw [List.length_cons] at hn
      have hoc : okC (byC v i) = true := o1.resolve_left hb
      obtain ⟨es, q1, q2⟩ := arrIs_put (v := byC v i) R (by omega) (by omega)
      have hst : ax_stc h (some 25) 3 (Int32.ofNat xs.length) (((byC v i).toUInt32 % 65536).toInt32) = some (ax_set h 25 (.inr (3, es))) := by
        unfold ax_stc
        rw [nc_ok hoc]
        exact q1
      have hm1 : (ax_set h 25 (.inr (3, es))).2.2 24 = some (.inl (9, fs)) := (pl_ne (by decide)).trans hm
      have hs1 : (fs.set 1 (ax_I (Int32.ofNat (xs.length + 1))))[1]? = some (ax_I (Int32.ofNat (xs.length + 1))) := List.getElem?_set_self (by omega)
      obtain ⟨h', fs2, p1, p2, p3, p4, p5, p6⟩ := Model_write_l2 (m := m) (v := v) k (i + 1) fuel (ax_set (ax_set h 25 (.inr (3, es))) 24 (.inl (9, fs.set 1 (ax_I (Int32.ofNat (xs.length + 1)))))) (fs.set 1 (ax_I (Int32.ofNat (xs.length + 1)))) (xs ++ [byC v i]) (by omega) (by omega) o2 pl_set (by rw [List.length_set]; exact hl) (by rw [List.length_append, List.length_singleton]; exact hs1) ((List.getElem?_set_ne (by decide)).trans h2) (arrIs_kept q2 (pl_ne (by decide))) (by rw [List.length_append, List.length_singleton]; omega)
      have ea : xs ++ byC v i :: nzC v k (i + 1) = xs ++ [byC v i] ++ nzC v k (i + 1) := by rw [List.append_assoc]; rfl
      rw [ea]
      refine ⟨h', fs2, ?_, p2, butF_set.trans p3, p4, p5, p6.1, p6.2.1, fun q g1 g2 => (p6.2.2 q g1 g2).trans ((pl_ne g1).trans (pl_ne g2))⟩
      rw [if_neg hb, pl_gr hm h2, Option.bind_some, pl_gi hm h1, Option.bind_some, hst, Option.bind_some, pl_gi hm1 h1, Option.bind_some, pl_pf hm1 (by omega), Option.bind_some, pl_s1, pl_s1]
      exact p1
  | 0, _, 0, _, _, _, _, hf, _, _, _, _, _, _, _ => absurd hf (by omega)
  | _ + 1, _, 0, _, _, _, _, hf, _, _, _, _, _, _, _ => absurd hf (by omega)
theorem Model_write_l1 {m : Nat} {v : Int64} {h : ax_Hp} {fs : List ax_T} {len : Nat} (hm : h.2.2 24 = some (.inl (9, fs))) (h1 : fs[1]? = some (ax_I (Int32.ofNat len))) (hlen : len ≤ 160) : ∀ (k i c fuel : Nat), i + k = 8 → k < fuel → c ≤ i →
    Model_write_lp10 (ax_F (m + 1)) fuel (some 24) v (Int32.ofNat c) (Int32.ofNat i) h = if okAll v k i = true then (if c + (nzC v k i).length ≤ 160 - len then Model_write_lp88 (ax_F (m + 1)) ax_fuel (some 24) v 0 h else ax_rz 0 h) else ax_rz 0 h
  | 0, i, c, fuel + 1, hik, _, hc => by
    have hi : i = 8 := by omega
    subst hi
    show Model_write_bd10 _ _ _ _ _ _ _ = _
    unfold Model_write_bd10
    rw [if_pos (by decide), pl_gi hm h1, Option.bind_some, ← Int32.ofNat_add]
    have e : (Int32.ofNat (len + c) ≤ 160) ↔ c + (nzC v 0 8).length ≤ 160 - len := (pl_le (n := len + c) (m := 160) (by omega) (by omega)).trans (by show _ ↔ c + 0 ≤ _; omega)
    rw [if_pos (show okAll v 0 8 = true from rfl)]
    by_cases hq : c + (nzC v 0 8).length ≤ 160 - len
    · rw [if_pos hq, if_pos (e.mpr hq)]
    · rw [if_neg hq, if_neg (fun z => hq (e.mp z))]
  | k + 1, i, c, fuel + 1, hik, hf, hc => by
    have hstep : Model_write_lp10 (ax_F (m + 1)) (fuel + 1) (some 24) v (Int32.ofNat c) (Int32.ofNat i) h = Model_write_bd10 (ax_F (m + 1)) (Model_write_lp10 (ax_F (m + 1)) fuel) (some 24) v (Int32.ofNat c) (Int32.ofNat i) h := rfl
    rw [hstep]
    unfold Model_write_bd10 Model_write_jn52 Model_write_jn63
    have hbm : (((v >>> ((8 * Int32.ofNat i).toInt64 &&& 63)) &&& 255).toInt32) = byC v i := by_eq v i (by omega)
    rw [if_neg (pl_8 hik), hbm]
    by_cases hb : byC v i = 0
    · have e : nzC v (k + 1) i = nzC v k (i + 1) := by
        show (if byC v i = 0 then [] else [byC v i]) ++ _ = _
        rw [if_pos hb]; rfl
      have e2 : okAll v (k + 1) i = okAll v k (i + 1) := by
        show ((decide (byC v i = 0) || okC (byC v i)) && okAll v k (i + 1)) = _
        simp [hb]
      rw [if_pos hb, if_pos hb, Int32.add_zero, pl_s1, e, e2]
      exact Model_write_l1 hm h1 hlen k (i + 1) c fuel (by omega) (by omega) (by omega)
    · have e : nzC v (k + 1) i = byC v i :: nzC v k (i + 1) := by
        show (if byC v i = 0 then [] else [byC v i]) ++ _ = _
        rw [if_neg hb]; rfl
      rw [if_neg hb]
      by_cases c1 : byC v i < 32
      · have e2 : okAll v (k + 1) i = false := by
          show ((decide (byC v i = 0) || okC (byC v i)) && okAll v k (i + 1)) = _
          simp [hb, okC, c1]
        rw [if_pos c1, e2, if_neg (by decide)]
      · rw [if_neg c1]
        by_cases c2 : byC v i ≤ 126
        · have e2 : okAll v (k + 1) i = okAll v k (i + 1) := by
            have c3 : ¬ 126 < byC v i := Int32.not_lt.mpr c2
            show ((decide (byC v i = 0) || okC (byC v i)) && okAll v k (i + 1)) = _
            simp [okC, c1, c3]
          rw [if_pos c2, if_neg hb, pl_s1, pl_s1, e, e2, List.length_cons]
          have := Model_write_l1 (m := m) (v := v) hm h1 hlen k (i + 1) (c + 1) fuel (by omega) (by omega) (by omega)
          rw [show c + ((nzC v k (i + 1)).length + 1) = c + 1 + (nzC v k (i + 1)).length by omega]
          exact this
        · have c3 : 126 < byC v i := Int32.not_le.mp c2
          have e2 : okAll v (k + 1) i = false := by
            show ((decide (byC v i = 0) || okC (byC v i)) && okAll v k (i + 1)) = _
            simp [hb, okC, c3]
          rw [if_neg c2, e2, if_neg (by decide)]
  | 0, _, _, 0, _, hf, _ => absurd hf (by omega)
  | _ + 1, _, _, 0, _, hf, _ => absurd hf (by omega)
theorem Model_write_e {m : Nat} {v : Int64} {h : ax_Hp} {fs : List ax_T} {xs : List Int32} (hm : h.2.2 24 = some (.inl (9, fs))) (hl : fs.length = 50) (h1 : fs[1]? = some (ax_I (Int32.ofNat xs.length))) (h2 : fs[2]? = some (ax_A (some 25))) (R : arrIs h 25 3 160 xs) :
    ∃ h' fs', ax_F (m + 2) 145 [ax_A (some 24), ax_L v] h = some (.inl (some (ax_I (if wrOk v xs = true then 1 else 0))), h') ∧ h'.2.2 24 = some (.inl (9, fs')) ∧ fs'.length = 50 ∧ fs'[0]? = some (ax_I 0) ∧ fs'[1]? = some (ax_I (Int32.ofNat (if wrOk v xs = true then xs ++ nzC v 8 0 else xs).length)) ∧ (∀ j, j ≠ 0 → j ≠ 1 → fs'[j]? = fs[j]?) ∧ arrIs h' 25 3 160 (if wrOk v xs = true then xs ++ nzC v 8 0 else xs) ∧ but2 h h' 24 25 := by
  have hle : xs.length ≤ 160 := by
    obtain ⟨es, -, -, -, r4⟩ := R
    exact r4
  rw [Model_write_F]
  unfold Model_write_b
  rw [pl_pf hm (by omega), Option.bind_some]
  generalize hh1 : ax_set h 24 (.inl (9, fs.set 0 (ax_I 0))) = g1
  have hm1 : g1.2.2 24 = some (.inl (9, fs.set 0 (ax_I 0))) := by rw [← hh1]; exact pl_set
  have hb1 : but2 h g1 24 25 := by rw [← hh1]; exact ⟨rfl, rfl, fun q g _ => pl_ne g⟩
  have R1 : arrIs g1 25 3 160 xs := by rw [← hh1]; exact arrIs_kept R (pl_ne (by decide))
  have z0 : (fs.set 0 (ax_I 0))[0]? = some (ax_I 0) := List.getElem?_set_self (by omega)
  have z1 : (fs.set 0 (ax_I 0))[1]? = some (ax_I (Int32.ofNat xs.length)) := (List.getElem?_set_ne (by decide)).trans h1
  have zj : ∀ j, j ≠ 0 → (fs.set 0 (ax_I 0))[j]? = fs[j]? := fun j g => List.getElem?_set_ne (Ne.symm g)
  have e1 : Model_write_lp10 (ax_F (m + 1)) ax_fuel (some 24) v 0 0 g1 = _ := Model_write_l1 (m := m) (v := v) hm1 z1 hle 8 0 0 1000000000000 (by omega) (by omega) (by omega)
  rw [e1]
  by_cases c1 : okAll v 8 0 = true
  · rw [if_pos c1]
    by_cases c2 : 0 + (nzC v 8 0).length ≤ 160 - xs.length
    · have hw : wrOk v xs = true := by
        unfold wrOk
        rw [c1, Bool.true_and, decide_eq_true_eq]
        omega
      rw [if_pos c2, if_pos hw, if_pos hw]
      obtain ⟨h', fs', p1, p2, p3, p4, p5, p6⟩ := Model_write_l2 (m := m) (v := v) 8 0 1000000000000 g1 (fs.set 0 (ax_I 0)) xs (by omega) (by omega) c1 hm1 (by rw [List.length_set]; exact hl) z1 ((zj 2 (by decide)).trans h2) R1 (by omega)
      exact ⟨h', fs', p1, p2, by rw [p3.1, List.length_set]; exact hl, (p3.2 0 (by decide)).trans z0, p4, fun j g1 g2 => (p3.2 j g2).trans (zj j g1), p5, hb1.trans p6⟩
    · have hw : ¬ wrOk v xs = true := by
        unfold wrOk
        rw [c1, Bool.true_and, decide_eq_true_eq]
        omega
      rw [if_neg c2, if_neg hw, if_neg hw, pl_rz0]
      exact ⟨g1, _, rfl, hm1, by rw [List.length_set]; exact hl, z0, z1, fun j g _ => zj j g, R1, hb1⟩
  · have hw : ¬ wrOk v xs = true := by
      unfold wrOk
      simp [c1]
    rw [if_neg c1, if_neg hw, if_neg hw, pl_rz0]
    exact ⟨g1, _, rfl, hm1, by rw [List.length_set]; exact hl, z0, z1, fun j g _ => zj j g, R1, hb1⟩
