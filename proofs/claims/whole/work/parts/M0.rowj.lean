theorem zi_nat (n : Nat) : Int32.ofNat n = Int32.ofInt (n : Int) := (Int32.ofInt_eq_ofNat).symm
/-- a row all of whose items are ints -/
def rowJ (h : ax_Hp) (a b cap : Nat) (xs : List Int32) : Prop := rowIs h a b cap xs ∧ ∃ es : List Int32, h.2.2 b = some (.inr (1, es.map ax_I))
theorem rowJ_kept {h h' : ax_Hp} {a b cap : Nat} {xs : List Int32} (R : rowJ h a b cap xs) (h1 : h'.2.2 a = h.2.2 a) (h2 : h'.2.2 b = h.2.2 b) : rowJ h' a b cap xs := by
  obtain ⟨R, es, e⟩ := R
  exact ⟨rowIs_kept R h1 h2, es, h2.trans e⟩
theorem axI_inj {a b : Int32} (h : ax_I a = ax_I b) : a = b := Sum.inl.inj h
theorem map_axI : ∀ {l k : List Int32}, l.map ax_I = k.map ax_I → l = k
  | [], [], _ => rfl
  | [], _ :: _, h => nomatch h
  | _ :: _, [], h => nomatch h
  | a :: l, b :: k, h => by
    rw [List.map_cons, List.map_cons] at h
    obtain ⟨h1, h2⟩ := List.cons.inj h
    rw [axI_inj h1, map_axI h2]
theorem rowJ_un {h : ax_Hp} {a b cap : Nat} {xs : List Int32} (R : rowJ h a b cap xs) : xs.length ≤ cap ∧ a ≠ b ∧ ∃ f : Nat → Int, h.2.2 a = some (rwO b (Int32.ofInt xs.length)) ∧ h.2.2 b = some (.inr (1, arL cap f)) ∧ ∀ j, j < xs.length → f j = (xs.getD j 0).toInt := by
  obtain ⟨⟨its, ⟨r1, r2, r3, r4, r5⟩, r6, r7⟩, es, e⟩ := R
  have hi : its = es.map ax_I := by
    have := r2.symm.trans e
    injection this with t1
    injection t1 with t2
    injection t2 with t3 t4
  have hl : es.length = cap := by rw [← r6, hi, List.length_map]
  refine ⟨by omega, r5, fun i => (es[i]?.getD 0).toInt, by rw [r1, zi_nat]; rfl, by rw [e, arL_of hl], fun j hj => ?_⟩
  rw [hi, ← List.map_take] at r7
  have := map_axI r7
  show (es[j]?.getD 0).toInt = _
  rw [List.getD_eq_getElem?_getD, ← this, List.getElem?_take, if_pos hj]
theorem rowJ_mk {h : ax_Hp} {a b cap n : Nat} {f : Nat → Int} {L : List Int32} (h1 : h.2.2 a = some (rwO b (Int32.ofInt n))) (h2 : h.2.2 b = some (.inr (1, arL cap f))) (hn : n ≤ cap) (hc : cap ≤ 1000000) (hab : a ≠ b) (hL : L.length = n) (hf : ∀ j, j < n → Int32.ofInt (f j) = L.getD j 0) : rowJ h a b cap L := by
  have ar : arL cap f = ((List.range cap).map fun i => Int32.ofInt (f i)).map ax_I := by
    unfold arL
    rw [List.map_map]
    rfl
  refine ⟨⟨arL cap f, ⟨?_, h2, by rw [arL_len, hL]; exact hn, by rw [arL_len]; exact hc, hab⟩, arL_len _ _, ?_⟩, _, h2.trans (by rw [ar])⟩
  · rw [h1, hL, zi_nat]; rfl
  · refine List.ext_getElem? fun j => ?_
    rw [List.getElem?_take, List.getElem?_map]
    by_cases hj : j < n
    · rw [if_pos (by omega), arL_at _ (by omega), hf j hj, List.getD_eq_getElem?_getD, List.getElem?_eq_getElem (by omega)]
      rfl
    · rw [if_neg (by omega), List.getElem?_eq_none (by omega)]
      rfl
theorem Row_add_J {m : Nat} {h : ax_Hp} {a b cap : Nat} {xs : List Int32} {v : Int32} (R : rowJ h a b cap xs) (hn : xs.length < cap) : ∃ h', ax_F (m + 1) 8 [ax_A (some a), ax_I v] h = some (.inl (some (ax_I 1)), h') ∧ rowJ h' a b cap (xs ++ [v]) ∧ but2 h h' a b := by
  obtain ⟨R, es, he⟩ := R
  obtain ⟨its, r1, r2, r3⟩ := id R
  have hlt : xs.length < its.length := by rw [r2]; exact hn
  have hi : its = es.map ax_I := by
    have := r1.2.1.symm.trans he
    injection this with t1
    injection t1 with t2
    injection t2 with t3 t4
  obtain ⟨h', e, R', b2⟩ := Row_add_i (m := m) (v := v) R hn
  have hh := (Prod.mk.inj (Option.some.inj (e.symm.trans (Row_add_e (m := m) (v := v) r1 hlt)))).2
  refine ⟨h', e, ⟨R', es.set xs.length v, ?_⟩, b2⟩
  rw [hh, (isRow_add (v := v) r1 hlt).2.1, hi, List.map_set]
theorem Desk_write_J2 {m : Nat} {v : Int64} {fs : List ax_T} (hfs : fs[0]? = some (ax_A (some 2))) : ∀ (k i fuel : Nat) (h : ax_Hp) (xs : List Int32), i + k = 8 → k < fuel → h.2.2 1 = some (.inl (8, fs)) → rowJ h 2 3 160 xs → xs.length + (nzC v k i).length ≤ 160 →
    ∃ h', Desk_write_lp60 (ax_F (m + 1)) fuel (some 1) v (Int32.ofNat i) h = some (.inl (some (ax_I 1)), h') ∧ rowJ h' 2 3 160 (xs ++ nzC v k i) ∧ but2 h h' 2 3
  | 0, i, fuel + 1, h, xs, hik, _, hd, R, hn => by
    have hi : i = 8 := by omega
    subst hi
    refine ⟨h, ?_, by rw [show nzC v 0 8 = [] from rfl, List.append_nil]; exact R, but2_refl _ _ _⟩
    show Desk_write_bd60 _ _ _ _ _ _ = _
    unfold Desk_write_bd60
    rw [if_pos (by decide), pl_rz1]
  | k + 1, i, fuel + 1, h, xs, hik, hf, hd, R, hn => by
    have hstep : Desk_write_lp60 (ax_F (m + 1)) (fuel + 1) (some 1) v (Int32.ofNat i) h = Desk_write_bd60 (ax_F (m + 1)) (Desk_write_lp60 (ax_F (m + 1)) fuel) (some 1) v (Int32.ofNat i) h := rfl
    rw [hstep]
    unfold Desk_write_bd60
    rw [if_neg (pl_8 hik), pl_ci Desk_byteOf_e]
    by_cases hb : byC v i = 0
    · rw [if_pos hb, pl_s1]
      have e : nzC v (k + 1) i = nzC v k (i + 1) := by
        show (if byC v i = 0 then [] else [byC v i]) ++ _ = _
        rw [if_pos hb]; rfl
      rw [e] at hn ⊢
      exact Desk_write_J2 (m := m) (v := v) hfs k (i + 1) fuel h xs (by omega) (by omega) hd R hn
    · have e : nzC v (k + 1) i = byC v i :: nzC v k (i + 1) := by
        show (if byC v i = 0 then [] else [byC v i]) ++ _ = _
        rw [if_neg hb]; rfl
      rw [e] at hn ⊢
      rw [List.length_cons] at hn
      obtain ⟨h1, q1, q2, q3⟩ := Row_add_J (m := m) (v := byC v i) R (by omega)
      have hd1 : h1.2.2 1 = some (.inl (8, fs)) := (q3.2.2 1 (by decide) (by decide)).trans hd
      obtain ⟨h2, p1, p2, p3⟩ := Desk_write_J2 (m := m) (v := v) hfs k (i + 1) fuel h1 (xs ++ [byC v i]) (by omega) (by omega) hd1 q2 (by rw [List.length_append, List.length_singleton]; omega)
      refine ⟨h2, ?_, by rw [List.append_assoc] at p2; exact p2, q3.trans p3⟩
      rw [if_neg hb, pl_gr hd hfs, Option.bind_some, pl_on (rowIs_obj R.1), pl_ci q1, pl_s1]
      exact p1
  | 0, _, 0, _, _, _, hf, _, _, _ => absurd hf (by omega)
  | _ + 1, _, 0, _, _, _, hf, _, _, _ => absurd hf (by omega)
theorem Desk_write_J {m : Nat} {v : Int64} {fs : List ax_T} {h : ax_Hp} {xs : List Int32} (hd : h.2.2 1 = some (.inl (8, fs))) (hfs : fs[0]? = some (ax_A (some 2))) (R : rowJ h 2 3 160 xs) :
    ∃ h', ax_F (m + 2) 4 [ax_A (some 1), ax_L v] h = some (.inl (some (ax_I (if wrOk v xs = true then 1 else 0))), h') ∧ rowJ h' 2 3 160 (if wrOk v xs = true then xs ++ nzC v 8 0 else xs) ∧ but2 h h' 2 3 := by
  have hl := rowIs_le R.1
  rw [Desk_write_F]
  unfold Desk_write_b
  have e0 := Desk_write_l1 (m := m) (v := v) hfs hd R.1 8 0 0 1000000000000 (by omega) (by omega) (by omega)
  have e1 : Desk_write_lp5 (ax_F (m + 1)) ax_fuel (some 1) v 0 0 h = _ := e0
  rw [e1]
  by_cases h1 : okAll v 8 0 = true
  · rw [if_pos h1]
    by_cases h2 : 0 + (nzC v 8 0).length ≤ 160 - xs.length
    · rw [if_pos h2]
      have hw : wrOk v xs = true := by
        unfold wrOk
        rw [h1, Bool.true_and, decide_eq_true_eq]
        omega
      rw [if_pos hw, if_pos hw]
      exact Desk_write_J2 hfs 8 0 1000000000000 h xs (by omega) (by omega) hd R (by omega)
    · have hw : ¬ wrOk v xs = true := by
        unfold wrOk
        rw [h1, Bool.true_and, decide_eq_true_eq]
        omega
      rw [if_neg h2, if_neg hw, if_neg hw, pl_rz0]
      exact ⟨h, rfl, R, but2_refl _ _ _⟩
  · have hw : ¬ wrOk v xs = true := by
      unfold wrOk
      simp [h1]
    rw [if_neg h1, if_neg hw, if_neg hw, pl_rz0]
    exact ⟨h, rfl, R, but2_refl _ _ _⟩
theorem Desk_feed_Jl {m K : Nat} {v : Int64} {fs : List ax_T} (hfs : fs[2]? = some (ax_A (some 8))) (hK : K ≤ 8) : ∀ (k i fuel : Nat) (h : ax_Hp) (xs : List Int32), i + k = K → k < fuel → h.2.2 1 = some (.inl (8, fs)) → rowJ h 8 9 64 xs → xs.length + k ≤ 64 →
    ∃ h', Desk_feed_lp27 (ax_F (m + 1)) fuel (some 1) v (Int32.ofNat K) (Int32.ofNat i) h = some (.inl (some (ax_I 1)), h') ∧ rowJ h' 8 9 64 (xs ++ byL v k i) ∧ but2 h h' 8 9
  | 0, i, fuel + 1, h, xs, hik, _, hd, R, hn => by
    have hi : i = K := by omega
    subst hi
    refine ⟨h, ?_, by rw [show byL v 0 i = [] from rfl, List.append_nil]; exact R, but2_refl _ _ _⟩
    show Desk_feed_bd27 _ _ _ _ _ _ _ = _
    unfold Desk_feed_bd27
    rw [if_pos ((pl_le (by omega) (by omega)).mpr (Nat.le_refl _)), pl_rz1]
  | k + 1, i, fuel + 1, h, xs, hik, hf, hd, R, hn => by
    have hstep : Desk_feed_lp27 (ax_F (m + 1)) (fuel + 1) (some 1) v (Int32.ofNat K) (Int32.ofNat i) h = Desk_feed_bd27 (ax_F (m + 1)) (Desk_feed_lp27 (ax_F (m + 1)) fuel) (some 1) v (Int32.ofNat K) (Int32.ofNat i) h := rfl
    rw [hstep]
    unfold Desk_feed_bd27
    obtain ⟨h1, q1, q2, q3⟩ := Row_add_J (m := m) (v := byC v i) R (by omega)
    have hd1 : h1.2.2 1 = some (.inl (8, fs)) := (q3.2.2 1 (by decide) (by decide)).trans hd
    obtain ⟨h2, p1, p2, p3⟩ := Desk_feed_Jl (m := m) (v := v) hfs hK k (i + 1) fuel h1 (xs ++ [byC v i]) (by omega) (by omega) hd1 q2 (by rw [List.length_append, List.length_singleton]; omega)
    refine ⟨h2, ?_, by rw [List.append_assoc] at p2; exact p2, q3.trans p3⟩
    rw [if_neg (fun z => absurd ((pl_le (by omega) (by omega)).mp z) (by omega)), pl_gr hd hfs, Option.bind_some, pl_ci Desk_byteOf_e, pl_on (rowIs_obj R.1), pl_ci q1, pl_s1]
    exact p1
  | 0, _, 0, _, _, _, hf, _, _, _ => absurd hf (by omega)
  | _ + 1, _, 0, _, _, _, hf, _, _, _ => absurd hf (by omega)
theorem Desk_feed_J {m : Nat} {v : Int64} {n : Int32} {fs : List ax_T} {h : ax_Hp} {xs : List Int32} (hd : h.2.2 1 = some (.inl (8, fs))) (hfs : fs[2]? = some (ax_A (some 8))) (R : rowJ h 8 9 64 xs) :
    ∃ h', ax_F (m + 2) 11 [ax_A (some 1), ax_L v, ax_I n] h = some (.inl (some (ax_I (if fdOk n xs.length = true then 1 else 0))), h') ∧ rowJ h' 8 9 64 (if fdOk n xs.length = true then xs ++ byL v n.toNatClampNeg 0 else xs) ∧ but2 h h' 8 9 := by
  have hl := rowIs_le R.1
  rw [Desk_feed_F]
  unfold Desk_feed_b
  by_cases h1 : n < 1
  · have hw : ¬ fdOk n xs.length = true := by
      unfold fdOk
      simp [h1]
    rw [if_pos h1, if_neg hw, if_neg hw, pl_rz0]
    exact ⟨h, rfl, R, but2_refl _ _ _⟩
  · rw [if_neg h1]
    by_cases h2 : 8 < n
    · have hw : ¬ fdOk n xs.length = true := by
        unfold fdOk
        simp [h2]
      rw [if_pos h2, if_neg hw, if_neg hw, pl_rz0]
      exact ⟨h, rfl, R, but2_refl _ _ _⟩
    · obtain ⟨e1, e2, e3⟩ := pl_n8 h1 h2
      rw [if_neg h2, pl_gr hd hfs, Option.bind_some, pl_on (rowIs_obj R.1), pl_ci (Row_room_i R.1)]
      have hiff : n ≤ Int32.ofNat (64 - xs.length) ↔ n.toNatClampNeg ≤ 64 - xs.length := by
        have := pl_le (n := n.toNatClampNeg) (m := 64 - xs.length) (by omega) (by omega)
        rw [← e1] at this
        exact this
      by_cases h3 : xs.length + n.toNatClampNeg ≤ 64
      · have hw : fdOk n xs.length = true := by
          unfold fdOk
          simp [h1, h2, h3]
        rw [if_pos (hiff.mpr (by omega)), if_pos hw, if_pos hw]
        have := Desk_feed_Jl (m := m) (v := v) hfs e3 n.toNatClampNeg 0 1000000000000 h xs (by omega) (by omega) hd R h3
        rw [← e1] at this
        exact this
      · have hw : ¬ fdOk n xs.length = true := by
          unfold fdOk
          simp [h3]
        rw [if_neg (fun z => h3 (by have := hiff.mp z; omega)), if_neg hw, if_neg hw, pl_rz0]
        exact ⟨h, rfl, R, but2_refl _ _ _⟩
/-- the reference's text grows -/
theorem Model_write_l2z {m : Nat} {v : Int64} {h : ax_Hp} : ∀ (k i fuel : Nat) (s : mS) (n : Nat), i + k = 8 → k < fuel → okAll v k i = true → s.1 1 = n → n + (nzC v k i).length ≤ 160 → ∃ s', Model_write_lp88 (ax_F (m + 1)) fuel (some 24) v (Int32.ofNat i) (mH h s) = some (.inl (some (ax_I 1)), mH h s') ∧ s'.1 1 = ((n + (nzC v k i).length : Nat) : Int) ∧ (∀ j, j ≠ 1 → s'.1 j = s.1 j) ∧ (∀ j, j ≠ 2 → s'.2.2.1 j = s.2.2.1 j) ∧ (∀ q : Nat, s'.2.2.1 2 q = if n ≤ q ∧ q < n + (nzC v k i).length then ((nzC v k i).getD (q - n) 0).toInt else s.2.2.1 2 q)
  | 0, i, fuel + 1, s, n, hik, _, _, h1, hn => by
    have hi : i = 8 := by omega
    subst hi
    refine ⟨s, ?_, h1, fun _ _ => rfl, fun _ _ => rfl, fun q => ?_⟩
    · show Model_write_bd88 _ _ _ _ _ _ = _
      unfold Model_write_bd88
      rw [if_pos (by decide), pl_rz1]
    · rw [if_neg (by show ¬ (n ≤ q ∧ q < n + 0); omega)]
  | k + 1, i, fuel + 1, s, n, hik, hf, hok, h1, hn => by
    have hstep : Model_write_lp88 (ax_F (m + 1)) (fuel + 1) (some 24) v (Int32.ofNat i) (mH h s) = Model_write_bd88 (ax_F (m + 1)) (Model_write_lp88 (ax_F (m + 1)) fuel) (some 24) v (Int32.ofNat i) (mH h s) := rfl
    rw [hstep]
    unfold Model_write_bd88 Model_write_jn136
    have hbm : (((v >>> ((8 * Int32.ofNat i).toInt64 &&& 63)) &&& 255).toInt32) = byC v i := by_eq v i (by omega)
    obtain ⟨o1, o2⟩ := okAll_s hok
    rw [if_neg (pl_8 hik), hbm]
    by_cases hb : byC v i = 0
    · have e : nzC v (k + 1) i = nzC v k (i + 1) := by
        show (if byC v i = 0 then [] else [byC v i]) ++ _ = _
        rw [if_pos hb]; rfl
      rw [if_pos hb, pl_s1]
      rw [e] at hn ⊢
      exact Model_write_l2z k (i + 1) fuel s n (by omega) (by omega) o2 h1 hn
    · have e : nzC v (k + 1) i = byC v i :: nzC v k (i + 1) := by
        show (if byC v i = 0 then [] else [byC v i]) ++ _ = _
        rw [if_neg hb]; rfl
      rw [e] at hn ⊢
      rw [List.length_cons] at hn ⊢
      have hoc : okC (byC v i) = true := o1.resolve_left hb
      have hst : ax_stc (mH h s) (some 25) 3 (Int32.ofInt n) (((byC v i).toUInt32 % 65536).toInt32) = some (mH h (mU s 2 n (byC v i).toInt)) := by
        unfold ax_stc
        rw [nc_ok hoc]
        have := mst_2 h s n (byC v i).toInt (by omega) (by omega)
        rw [Int32.ofInt_toInt] at this
        exact this
      obtain ⟨s', p1, p2, p3, p4, p5⟩ := Model_write_l2z (m := m) (v := v) (h := h) k (i + 1) fuel (mI (mU s 2 n (byC v i).toInt) 1 ((n + 1 : Nat) : Int)) (n + 1) (by omega) (by omega) o2 rfl (by omega)
      refine ⟨s', ?_, by rw [p2]; omega, fun j hj => by rw [p3 j hj, mI_1, if_neg hj, mU_1], fun j hj => by rw [p4 j hj, mI_2, mU_ne _ _ _ _ _ hj], fun q => ?_⟩
      · rw [if_neg hb, mgr_2, Option.bind_some, mgi_1, Option.bind_some, h1, hst, Option.bind_some, mgi_1, Option.bind_some, show (mU s 2 n (byC v i).toInt).1 1 = n from h1, show (1 : Int32) = Int32.ofInt 1 from rfl, zi_add, show (n : Int) + 1 = ((n + 1 : Nat) : Int) by omega, mpf_1, Option.bind_some, show Int32.ofNat i + Int32.ofInt 1 = Int32.ofNat (i + 1) from pl_s1 i]
        exact p1
      · rw [p5 q, mI_2, mU_3]
        by_cases c1 : n + 1 ≤ q ∧ q < n + 1 + (nzC v k (i + 1)).length
        · rw [if_pos c1, if_pos (by omega), show q - n = (q - (n + 1)) + 1 by omega]
          rfl
        · rw [if_neg c1]
          by_cases c2 : q = n
          · rw [if_pos ⟨rfl, by omega⟩, if_pos (by omega), c2, Nat.sub_self]
            rfl
          · rw [if_neg (by omega), if_neg (by omega)]
  | 0, _, 0, _, _, _, hf, _, _, _ => absurd hf (by omega)
  | _ + 1, _, 0, _, _, _, hf, _, _, _ => absurd hf (by omega)
theorem Model_write_z {m : Nat} {v : Int64} {h : ax_Hp} {s : mS} {xs : List Int32} (h1 : s.1 1 = xs.length) (hl : xs.length ≤ 160) : ∃ s', ax_F (m + 2) 145 [ax_A (some 24), ax_L v] (mH h s) = some (.inl (some (ax_I (if wrOk v xs = true then 1 else 0))), mH h s') ∧ s'.1 0 = 0 ∧ s'.1 1 = ((if wrOk v xs = true then xs ++ nzC v 8 0 else xs).length : Nat) ∧ (∀ j, j ≠ 0 → j ≠ 1 → s'.1 j = s.1 j) ∧ (∀ j, j ≠ 2 → s'.2.2.1 j = s.2.2.1 j) ∧ (∀ q : Nat, s'.2.2.1 2 q = if wrOk v xs = true ∧ xs.length ≤ q ∧ q < xs.length + (nzC v 8 0).length then ((nzC v 8 0).getD (q - xs.length) 0).toInt else s.2.2.1 2 q) := by
  rw [Model_write_F]
  unfold Model_write_b
  rw [show ax_pf (mH h s) (some 24) 9 0 (ax_I 0) = some (mH h (mI s 0 0)) from mpf_0 h s 0, Option.bind_some]
  have e1 : Model_write_lp10 (ax_F (m + 1)) ax_fuel (some 24) v 0 0 (mH h (mI s 0 0)) = _ := Model_write_l1 (m := m) (v := v) (h := mH h (mI s 0 0)) (fs := mF (mI s 0 0)) (len := xs.length) rfl (by rw [zi_nat, ← h1]; rfl) hl 8 0 0 1000000000000 (by omega) (by omega) (by omega)
  rw [e1]
  have no : ¬ wrOk v xs = true → ∃ s', ax_rz 0 (mH h (mI s 0 0)) = some (.inl (some (ax_I (if wrOk v xs = true then 1 else 0))), mH h s') ∧ s'.1 0 = 0 ∧ s'.1 1 = ((if wrOk v xs = true then xs ++ nzC v 8 0 else xs).length : Nat) ∧ (∀ j, j ≠ 0 → j ≠ 1 → s'.1 j = s.1 j) ∧ (∀ j, j ≠ 2 → s'.2.2.1 j = s.2.2.1 j) ∧ (∀ q : Nat, s'.2.2.1 2 q = if wrOk v xs = true ∧ xs.length ≤ q ∧ q < xs.length + (nzC v 8 0).length then ((nzC v 8 0).getD (q - xs.length) 0).toInt else s.2.2.1 2 q) := fun hw => by
    rw [if_neg hw, if_neg hw, pl_rz0]
    exact ⟨mI s 0 0, rfl, rfl, h1, fun j a _ => by rw [mI_1, if_neg a], fun _ _ => rfl, fun q => by rw [if_neg (fun z => hw z.1)]; rfl⟩
  by_cases c1 : okAll v 8 0 = true
  · rw [if_pos c1]
    by_cases c2 : 0 + (nzC v 8 0).length ≤ 160 - xs.length
    · have hw : wrOk v xs = true := by
        unfold wrOk
        rw [c1, Bool.true_and, decide_eq_true_eq]
        omega
      rw [if_pos c2, if_pos hw, if_pos hw]
      obtain ⟨s', p1, p2, p3, p4, p5⟩ := Model_write_l2z (m := m) (v := v) (h := h) 8 0 1000000000000 (mI s 0 0) xs.length (by omega) (by omega) c1 h1 (by omega)
      refine ⟨s', p1, by rw [p3 0 (by decide)]; rfl, by rw [p2, List.length_append], fun j a b => by rw [p3 j b, mI_1, if_neg a], fun j a => by rw [p4 j a, mI_2], fun q => ?_⟩
      rw [p5 q]
      by_cases c3 : xs.length ≤ q ∧ q < xs.length + (nzC v 8 0).length
      · rw [if_pos c3, if_pos ⟨hw, c3⟩]
      · rw [if_neg c3, if_neg (fun z => c3 z.2)]
        rfl
    · have hw : ¬ wrOk v xs = true := by
        unfold wrOk
        rw [c1, Bool.true_and, decide_eq_true_eq]
        omega
      rw [if_neg c2]
      exact no hw
  · have hw : ¬ wrOk v xs = true := by
      unfold wrOk
      simp [c1]
    rw [if_neg c1]
    exact no hw
/-- the reference's stream grows -/
theorem Model_feed_lz {m K : Nat} {v : Int64} {h : ax_Hp} (hK : K ≤ 8) : ∀ (k i fuel : Nat) (s : mS) (n : Nat), i + k = K → k < fuel → s.1 3 = n → n + k ≤ 64 → ∃ s', Model_feed_lp32 (ax_F (m + 1)) fuel (some 24) v (Int32.ofNat K) (Int32.ofNat i) (mH h s) = some (.inl (some (ax_I 1)), mH h s') ∧ s'.1 3 = ((n + k : Nat) : Int) ∧ (∀ j, j ≠ 3 → s'.1 j = s.1 j) ∧ (∀ j, j ≠ 4 → s'.2.2.1 j = s.2.2.1 j) ∧ (∀ q : Nat, s'.2.2.1 4 q = if n ≤ q ∧ q < n + k then ((byL v k i).getD (q - n) 0).toInt else s.2.2.1 4 q)
  | 0, i, fuel + 1, s, n, hik, _, h3, hn => by
    have hi : i = K := by omega
    subst hi
    refine ⟨s, ?_, h3, fun _ _ => rfl, fun _ _ => rfl, fun q => by rw [if_neg (by omega)]⟩
    show Model_feed_bd32 _ _ _ _ _ _ _ = _
    unfold Model_feed_bd32
    rw [if_pos ((pl_le (by omega) (by omega)).mpr (Nat.le_refl _)), pl_rz1]
  | k + 1, i, fuel + 1, s, n, hik, hf, h3, hn => by
    have hstep : Model_feed_lp32 (ax_F (m + 1)) (fuel + 1) (some 24) v (Int32.ofNat K) (Int32.ofNat i) (mH h s) = Model_feed_bd32 (ax_F (m + 1)) (Model_feed_lp32 (ax_F (m + 1)) fuel) (some 24) v (Int32.ofNat K) (Int32.ofNat i) (mH h s) := rfl
    rw [hstep]
    unfold Model_feed_bd32
    have hbm : (((v >>> ((8 * Int32.ofNat i).toInt64 &&& 63)) &&& 255).toInt32) = byC v i := by_eq v i (by omega)
    have hst : ax_st (mH h s) (some 26) 1 (Int32.ofInt n) (ax_I (byC v i)) = some (mH h (mU s 4 n (byC v i).toInt)) := by
      have := mst_4 h s n (byC v i).toInt (by omega) (by omega)
      rw [Int32.ofInt_toInt] at this
      exact this
    obtain ⟨s', p1, p2, p3, p4, p5⟩ := Model_feed_lz (m := m) (v := v) (h := h) hK k (i + 1) fuel (mI (mU s 4 n (byC v i).toInt) 3 ((n + 1 : Nat) : Int)) (n + 1) (by omega) (by omega) rfl (by omega)
    refine ⟨s', ?_, by rw [p2]; omega, fun j hj => by rw [p3 j hj, mI_1, if_neg hj, mU_1], fun j hj => by rw [p4 j hj, mI_2, mU_ne _ _ _ _ _ hj], fun q => ?_⟩
    · rw [if_neg (fun z => absurd ((pl_le (by omega) (by omega)).mp z) (by omega)), hbm, mgr_4, Option.bind_some, mgi_3, Option.bind_some, h3, hst, Option.bind_some, mgi_3, Option.bind_some, show (mU s 4 n (byC v i).toInt).1 3 = n from h3, show (1 : Int32) = Int32.ofInt 1 from rfl, zi_add, show (n : Int) + 1 = ((n + 1 : Nat) : Int) by omega, mpf_3, Option.bind_some, show Int32.ofNat i + Int32.ofInt 1 = Int32.ofNat (i + 1) from pl_s1 i]
      exact p1
    · rw [p5 q, mI_2, mU_3]
      by_cases c1 : n + 1 ≤ q ∧ q < n + 1 + k
      · rw [if_pos c1, if_pos (by omega), show q - n = (q - (n + 1)) + 1 by omega]
        rfl
      · rw [if_neg c1]
        by_cases c2 : q = n
        · rw [if_pos ⟨rfl, by omega⟩, if_pos (by omega), c2, Nat.sub_self]
          rfl
        · rw [if_neg (by omega), if_neg (by omega)]
  | 0, _, 0, _, _, _, hf, _, _ => absurd hf (by omega)
  | _ + 1, _, 0, _, _, _, hf, _, _ => absurd hf (by omega)
theorem Model_feed_z {m : Nat} {v : Int64} {n : Int32} {h : ax_Hp} {s : mS} {len : Nat} (h3 : s.1 3 = len) (hl : len ≤ 64) : ∃ s', ax_F (m + 2) 147 [ax_A (some 24), ax_L v, ax_I n] (mH h s) = some (.inl (some (ax_I (if fdOk n len = true then 1 else 0))), mH h s') ∧ s'.1 0 = 0 ∧ s'.1 3 = ((if fdOk n len = true then len + n.toNatClampNeg else len : Nat) : Int) ∧ (∀ j, j ≠ 0 → j ≠ 3 → s'.1 j = s.1 j) ∧ (∀ j, j ≠ 4 → s'.2.2.1 j = s.2.2.1 j) ∧ (∀ q : Nat, s'.2.2.1 4 q = if fdOk n len = true ∧ len ≤ q ∧ q < len + n.toNatClampNeg then ((byL v n.toNatClampNeg 0).getD (q - len) 0).toInt else s.2.2.1 4 q) := by
  rw [Model_feed_F]
  unfold Model_feed_b
  rw [show ax_pf (mH h s) (some 24) 9 0 (ax_I 0) = some (mH h (mI s 0 0)) from mpf_0 h s 0, Option.bind_some]
  have no : ¬ fdOk n len = true → ∃ s', ax_rz 0 (mH h (mI s 0 0)) = some (.inl (some (ax_I (if fdOk n len = true then 1 else 0))), mH h s') ∧ s'.1 0 = 0 ∧ s'.1 3 = ((if fdOk n len = true then len + n.toNatClampNeg else len : Nat) : Int) ∧ (∀ j, j ≠ 0 → j ≠ 3 → s'.1 j = s.1 j) ∧ (∀ j, j ≠ 4 → s'.2.2.1 j = s.2.2.1 j) ∧ (∀ q : Nat, s'.2.2.1 4 q = if fdOk n len = true ∧ len ≤ q ∧ q < len + n.toNatClampNeg then ((byL v n.toNatClampNeg 0).getD (q - len) 0).toInt else s.2.2.1 4 q) := fun hw => by
    rw [if_neg hw, if_neg hw, pl_rz0]
    exact ⟨mI s 0 0, rfl, rfl, h3, fun j a _ => by rw [mI_1, if_neg a], fun _ _ => rfl, fun q => by rw [if_neg (fun z => hw z.1)]; rfl⟩
  by_cases c1 : n < 1
  · rw [if_pos c1]
    exact no (by unfold fdOk; simp [c1])
  · rw [if_neg c1]
    by_cases c2 : 8 < n
    · rw [if_pos c2]
      exact no (by unfold fdOk; simp [c2])
    · obtain ⟨e1, e2, e3⟩ := pl_n8 c1 c2
      have hsum : Int32.ofNat len + n = Int32.ofNat (len + n.toNatClampNeg) := by
        rw [Int32.ofNat_add, ← e1]
      rw [if_neg c2, mgi_3, Option.bind_some, show (mI s 0 0).1 3 = len from h3, ← zi_nat, hsum]
      have hiff : Int32.ofNat (len + n.toNatClampNeg) ≤ 64 ↔ len + n.toNatClampNeg ≤ 64 := pl_le (m := 64) (by omega) (by omega)
      by_cases c3 : len + n.toNatClampNeg ≤ 64
      · have hw : fdOk n len = true := by
          unfold fdOk
          simp [c1, c2, c3]
        rw [if_pos (hiff.mpr c3), if_pos hw, if_pos hw]
        obtain ⟨s', p1, p2, p3, p4, p5⟩ := Model_feed_lz (m := m) (v := v) (h := h) e3 n.toNatClampNeg 0 1000000000000 (mI s 0 0) len (by omega) (by omega) h3 c3
        rw [← e1] at p1
        refine ⟨s', p1, by rw [p3 0 (by decide)]; rfl, p2, fun j a b => by rw [p3 j b, mI_1, if_neg a], fun j a => by rw [p4 j a, mI_2], fun q => ?_⟩
        rw [p5 q]
        by_cases c4 : len ≤ q ∧ q < len + n.toNatClampNeg
        · rw [if_pos c4, if_pos ⟨hw, c4⟩]
        · rw [if_neg c4, if_neg (fun z => c4 z.2)]
          rfl
      · rw [if_neg (fun z => c3 (hiff.mp z))]
        exact no (by unfold fdOk; simp [c3])
theorem by_255 (x : Int32) : 0 ≤ (x &&& 255).toInt ∧ (x &&& 255).toInt ≤ 255 := by
  have h : (x &&& 255).toBitVec = x.toBitVec &&& 255#32 := rfl
  have e : (x &&& 255).toInt = (x.toBitVec &&& 255#32).toInt := by rw [← h]; rfl
  have l : (x.toBitVec &&& 255#32).toNat ≤ 255 := by
    rw [BitVec.toNat_and]
    exact Nat.and_le_right
  rw [e, BitVec.toInt_eq_toNat_of_lt (by omega)]
  omega
theorem byL_b (v : Int64) : ∀ (k i : Nat), ∀ c ∈ byL v k i, 0 ≤ c.toInt ∧ c.toInt ≤ 255
  | 0, _, c, h => absurd h List.not_mem_nil
  | k + 1, i, c, h => by
    rcases List.mem_cons.mp (show c ∈ byC v i :: byL v k (i + 1) from h) with z | z
    · rw [z]; exact by_255 _
    · exact byL_b v k (i + 1) c z
theorem okC_i {b : Int32} (h : okC b = true) : 32 ≤ b.toInt ∧ b.toInt ≤ 126 := by
  obtain ⟨h1, h2, h3⟩ := okC_nat h
  have : b.toInt = (b.toNatClampNeg : Int) := by
    rw [h1, zi_nat, zi_toInt (by omega) (by omega), ← zi_nat, ← h1]
  omega
theorem nzC_b (v : Int64) : ∀ (k i : Nat), okAll v k i = true → ∀ c ∈ nzC v k i, 32 ≤ c.toInt ∧ c.toInt ≤ 126
  | 0, _, _, c, h => absurd h List.not_mem_nil
  | k + 1, i, hok, c, h => by
    obtain ⟨o1, o2⟩ := okAll_s hok
    rcases List.mem_append.mp (show c ∈ (if byC v i = 0 then [] else [byC v i]) ++ nzC v k (i + 1) from h) with z | z
    · by_cases hb : byC v i = 0
      · rw [if_pos hb] at z; exact absurd z List.not_mem_nil
      · rw [if_neg hb, List.mem_singleton] at z
        rw [z]
        exact okC_i (o1.resolve_left hb)
    · exact nzC_b v k (i + 1) o2 c z
