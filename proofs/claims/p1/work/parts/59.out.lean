theorem Row_at_i {m : Nat} {h : ax_Hp} {a b cap i : Nat} {xs : List Int32} {v : Int32} (R : rowIs h a b cap xs) (hv : xs[i]? = some v) : ax_F (m + 1) 45 [ax_A (some a), ax_I (Int32.ofNat i)] h = some (.inl (some (ax_I v)), h) := by
  obtain ⟨its, r1, r2, r3⟩ := R
  have hi : i < xs.length := (List.getElem?_eq_some_iff.mp hv).1
  refine Row_at_e r1 hi ?_
  have e : (its.take xs.length)[i]? = its[i]? := by rw [List.getElem?_take, if_pos hi]
  rw [← e, r3, List.getElem?_map, hv]
  rfl
theorem Row_size_i {m : Nat} {h : ax_Hp} {a b cap : Nat} {xs : List Int32} (R : rowIs h a b cap xs) : ax_F (m + 1) 51 [ax_A (some a)] h = some (.inl (some (ax_I (Int32.ofNat xs.length))), h) := by
  obtain ⟨its, r1, r2, r3⟩ := R
  exact Row_size_e r1
theorem nonneg_nat {n : Int32} (h : ¬ n < 0) : n = Int32.ofNat n.toNatClampNeg ∧ n.toNatClampNeg < 2147483648 := by
  have g := Int32.not_lt.mp h
  refine ⟨(Int32.ofNat_toNatClampNeg n g).symm, ?_⟩
  have g3 : n.toNatClampNeg = n.toInt.toNat := rfl
  have := n.toInt_lt
  omega
theorem Desk_out_e {m : Nat} {n v : Int32} {h : ax_Hp} {fs : List ax_T} {r b cap : Nat} {ys : List Int32} (hd : h.2.2 1 = some (.inl (8, fs))) (hfs : fs[5]? = some (ax_A (some r))) (R : rowIs h r b cap ys) (hcap : cap < 2147483648) (h0 : ¬ n < 0) (hv : ys[n.toNatClampNeg]? = some v) : ax_F (m + 2) 142 [ax_A (some 1), ax_I n] h = some (.inl (some (ax_I v)), h) := by
  obtain ⟨e1, e2⟩ := nonneg_nat h0
  have hlt : n.toNatClampNeg < ys.length := (List.getElem?_eq_some_iff.mp hv).1
  have hle := rowIs_le R
  have hat := Row_at_i (m := m) R hv
  rw [← e1] at hat
  have hc : n < Int32.ofNat ys.length := by
    have := (pl_lt (n := n.toNatClampNeg) (m := ys.length) (by omega) (by omega)).mpr hlt
    rw [← e1] at this
    exact this
  rw [Desk_out_F]
  unfold Desk_out_b
  rw [if_neg h0, pl_gr hd hfs, Option.bind_some, pl_on (rowIs_obj R), pl_ci (Row_size_i R), if_pos hc, pl_gr hd hfs, Option.bind_some, pl_on (rowIs_obj R), pl_ci hat]
  rfl
theorem Desk_out_no {m : Nat} {n : Int32} {h : ax_Hp} {fs : List ax_T} {r b cap : Nat} {ys : List Int32} (hd : h.2.2 1 = some (.inl (8, fs))) (hfs : fs[5]? = some (ax_A (some r))) (R : rowIs h r b cap ys) (hcap : cap < 2147483648) (hn : n < 0 ∨ ys.length ≤ n.toNatClampNeg) (hc : h.1 + 1 ≤ ax_CM) (hs : h.2.1 + 6 ≤ ax_SM) : ax_F (m + 2) 142 [ax_A (some 1), ax_I n] h = some (.inr (2, h.1 + 1), thr h) := by
  rw [Desk_out_F]
  unfold Desk_out_b
  by_cases h0 : n < 0
  · rw [if_pos h0, ax_th_e hc hs]
  · obtain ⟨e1, e2⟩ := nonneg_nat h0
    have hge : ys.length ≤ n.toNatClampNeg := hn.resolve_left h0
    have hle := rowIs_le R
    have hc' : ¬ n < Int32.ofNat ys.length := fun z => by
      rw [e1] at z
      have := (pl_lt (by omega) (by omega)).mp z
      omega
    rw [if_neg h0, pl_gr hd hfs, Option.bind_some, pl_on (rowIs_obj R), pl_ci (Row_size_i R), if_neg hc', ax_th_e hc hs]
theorem Model_out_e {m : Nat} {n v : Int32} {h : ax_Hp} {fs : List ax_T} {cap : Nat} {ys : List Int32} (hm : h.2.2 24 = some (.inl (9, fs))) (hl : fs.length = 50) (h5 : fs[5]? = some (ax_I (Int32.ofNat ys.length))) (h6 : fs[6]? = some (ax_A (some 27))) (R : arrIs h 27 1 cap ys) (hcap : cap < 2147483648) (h0 : ¬ n < 0) (hv : ys[n.toNatClampNeg]? = some v) : ax_F (m + 1) 209 [ax_A (some 24), ax_I n] h = some (.inl (some (ax_I v)), ax_set h 24 (.inl (9, fs.set 0 (ax_I 0)))) := by
  obtain ⟨e1, e2⟩ := nonneg_nat h0
  obtain ⟨es, r1, r2, r3, r4⟩ := R
  have hlt : n.toNatClampNeg < ys.length := (List.getElem?_eq_some_iff.mp hv).1
  have hes : es[n.toNatClampNeg]? = some (ax_I v) := by
    have e : (es.take ys.length)[n.toNatClampNeg]? = es[n.toNatClampNeg]? := by rw [List.getElem?_take, if_pos hlt]
    rw [← e, r3, List.getElem?_map, hv]
    rfl
  have hc : ¬ Int32.ofNat ys.length ≤ n := fun z => by
    rw [e1] at z
    have := (pl_le (by omega) (by omega)).mp z
    omega
  have hld : ax_ldi (ax_set h 24 (.inl (9, fs.set 0 (ax_I 0)))) (some 27) 1 n = some v := by
    have := pl_ldi (n := n.toNatClampNeg) ((pl_ne (h := h) (a := 24) (b := 27) (o := .inl (9, fs.set 0 (ax_I 0))) (by decide)).trans r1) (by omega) hes
    rw [← e1] at this
    exact this
  rw [Model_out_F]
  unfold Model_out_b
  rw [if_neg h0, pl_gi hm h5, Option.bind_some, if_neg hc]
  unfold Model_out_jn18
  rw [pl_pf hm (by omega), Option.bind_some, pl_gi pl_set (List.getElem?_set_self (by omega)), Option.bind_some, if_pos rfl, pl_gr pl_set ((List.getElem?_set_ne (by decide)).trans h6), Option.bind_some, hld]
  rfl
theorem Model_out_no {m : Nat} {n : Int32} {h : ax_Hp} {fs : List ax_T} {len : Nat} (hm : h.2.2 24 = some (.inl (9, fs))) (hl : fs.length = 50) (h5 : fs[5]? = some (ax_I (Int32.ofNat len))) (hlen : len < 2147483648) (hn : n < 0 ∨ len ≤ n.toNatClampNeg) : ax_F (m + 1) 209 [ax_A (some 24), ax_I n] h = some (.inl (some (ax_I 0)), ax_set h 24 (.inl (9, fs.set 0 (ax_I 1)))) := by
  have fin : Model_out_jn18 (ax_F m) (some 24) n 1 (some 24) h = some (.inl (some (ax_I 0)), ax_set h 24 (.inl (9, fs.set 0 (ax_I 1)))) := by
    unfold Model_out_jn18
    rw [pl_pf hm (by omega), Option.bind_some, pl_gi pl_set (List.getElem?_set_self (by omega)), Option.bind_some, if_neg (by decide)]
    rfl
  rw [Model_out_F]
  unfold Model_out_b Model_out_jn17
  by_cases h0 : n < 0
  · rw [if_pos h0]
    exact fin
  · obtain ⟨e1, e2⟩ := nonneg_nat h0
    have hc : Int32.ofNat len ≤ n := by
      have := (pl_le (n := len) (m := n.toNatClampNeg) (by omega) (by omega)).mpr (hn.resolve_left h0)
      rw [← e1] at this
      exact this
    rw [if_neg h0, pl_gi hm h5, Option.bind_some, if_pos hc]
    exact fin
/-- does mode take its arguments? -/
def mdOk (n x : Int32) : Bool := isSub n && !(decide (x < 0)) && !(decide (6 < x))
theorem Model_mode_no {m : Nat} {n x : Int32} {h : ax_Hp} {fs : List ax_T} (hm : h.2.2 24 = some (.inl (9, fs))) (hl : fs.length = 50) (hn : ¬ mdOk n x = true) : ax_F (m + 2) 149 [ax_A (some 24), ax_I n, ax_I x] h = some (.inl none, ax_set h 24 (.inl (9, fs.set 0 (ax_I 1)))) := by
  have fin : Model_mode_jn23 (ax_F (m + 1)) (some 24) n x 1 (some 24) h = some (.inl none, ax_set h 24 (.inl (9, fs.set 0 (ax_I 1)))) := by
    unfold Model_mode_jn23
    rw [pl_pf hm (by omega), Option.bind_some, pl_gi pl_set (List.getElem?_set_self (by omega)), Option.bind_some, if_neg (by decide)]
    rfl
  rw [Model_mode_F]
  unfold Model_mode_b Model_mode_jn22
  rw [pl_ci Model_isSubject_e]
  by_cases c1 : isSub n = true
  · rw [if_pos c1, if_neg (by decide)]
    by_cases c2 : x < 0
    · rw [if_pos c2]
      exact fin
    · rw [if_neg c2]
      by_cases c3 : 6 < x
      · rw [if_pos c3]
        exact fin
      · exact absurd (by unfold mdOk; simp [c1, c2, c3]) hn
  · rw [if_neg c1, if_pos rfl]
    exact fin
theorem Model_mode_e {m : Nat} {n x : Int32} {h : ax_Hp} {fs es : List ax_T} (hm : h.2.2 24 = some (.inl (9, fs))) (hl : fs.length = 50) (h10 : fs[10]? = some (ax_A (some 29))) (ha : h.2.2 29 = some (.inr (1, es))) (he : es.length = 4) (hn : mdOk n x = true) : ax_F (m + 2) 149 [ax_A (some 24), ax_I n, ax_I x] h = some (.inl none, ax_set (ax_set h 24 (.inl (9, fs.set 0 (ax_I 0)))) 29 (.inr (1, es.set n.toNatClampNeg (ax_I x)))) := by
  unfold mdOk at hn
  rw [Bool.and_eq_true, Bool.and_eq_true, Bool.not_eq_true', Bool.not_eq_true', decide_eq_false_iff_not, decide_eq_false_iff_not] at hn
  obtain ⟨⟨c1, c2⟩, c3⟩ := hn
  obtain ⟨e1, e2⟩ := isSub_nat c1
  have hst : ax_st (ax_set h 24 (.inl (9, fs.set 0 (ax_I 0)))) (some 29) 1 n (ax_I x) = some (ax_set (ax_set h 24 (.inl (9, fs.set 0 (ax_I 0)))) 29 (.inr (1, es.set n.toNatClampNeg (ax_I x)))) := by
    have := pl_st (n := n.toNatClampNeg) (v := ax_I x) ((pl_ne (h := h) (a := 24) (b := 29) (o := .inl (9, fs.set 0 (ax_I 0))) (by decide)).trans ha) (by omega) (by omega)
    rw [← e1] at this
    exact this
  rw [Model_mode_F]
  unfold Model_mode_b
  rw [pl_ci Model_isSubject_e, if_pos c1, if_neg (by decide), if_neg c2, if_neg c3]
  unfold Model_mode_jn23
  rw [pl_pf hm (by omega), Option.bind_some, pl_gi pl_set (List.getElem?_set_self (by omega)), Option.bind_some, if_pos rfl, pl_gr pl_set ((List.getElem?_set_ne (by decide)).trans h10), Option.bind_some, hst]
  rfl
