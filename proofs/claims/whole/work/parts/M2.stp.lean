/-- one turn of the law's loop keeps the invariant -/
def stp (xs : List Int32) (t : Nat) (K : Option Nat → Option Nat → Option Nat → Option Nat → Int32 → ax_Hp → ax_O) (x4 : Int32) (h : ax_Hp) : Prop := ∃ (h2 : ax_Hp) (s2 : mS), Law_law_bd23 (ax_F 1391) K (some 0) (some 1) (some 24) (some 59) x4 h = K (some 0) (some 1) (some 24) (some 59) (x4 + 4) h2 ∧ INV xs (t + 1) h2 s2
theorem rm_c {n : Nat} (h : n ≤ 601024) : n ≤ ax_CM := h
theorem rm_s {n : Nat} (h : n ≤ 7293034) : n ≤ ax_SM := h
theorem gD_app (l k : List Int32) (j : Nat) : (l ++ k).getD j 0 = if j < l.length then l.getD j 0 else k.getD (j - l.length) 0 := by
  rw [List.getD_eq_getElem?_getD, List.getElem?_append]
  split
  · rw [List.getD_eq_getElem?_getD]
  · rw [List.getD_eq_getElem?_getD]
theorem gD_mem {l : List Int32} {j : Nat} (h : j < l.length) : l.getD j 0 ∈ l := by
  rw [List.getD_eq_getElem?_getD, List.getElem?_eq_getElem h]
  exact List.getElem_mem _
theorem tyT_of {s : mS} {tx : List Int32} (h1 : s.1 1 = tx.length) (hl : tx.length ≤ 160) (hc : ∀ c ∈ tx, 32 ≤ c.toInt ∧ c.toInt ≤ 126) (ha : ∀ j, j < tx.length → s.2.2.1 2 j = (tx.getD j 0).toInt) : tyT s tx.length (txV tx) := by
  refine ⟨h1, by omega, by omega, fun p p0 p1 => ?_, fun p hp => if_neg (by omega), fun p => ?_⟩
  · rw [ha p.toNat (by omega)]
    exact (if_pos ⟨p0, p1⟩).symm
  · unfold txV
    by_cases q : 0 ≤ p ∧ p < tx.length
    · rw [if_pos q]
      have := hc _ (gD_mem (show p.toNat < tx.length by omega))
      omega
    · rw [if_neg q]; omega
theorem tyT_at {s : mS} {tx : List Int32} (T : tyT s tx.length (txV tx)) {j : Nat} (hj : j < tx.length) : s.2.2.1 2 j = (tx.getD j 0).toInt := by
  have := T.2.2.2.1 j (by omega) (by omega)
  rw [show ((j : Int)).toNat = j by omega] at this
  rw [this]
  unfold txV
  rw [if_pos ⟨by omega, by omega⟩, show ((j : Int)).toNat = j by omega]
theorem isS_of {s : mS} {st : List Int32} (h1 : s.1 3 = st.length) (hl : st.length ≤ 64) (hc : ∀ c ∈ st, 0 ≤ c.toInt ∧ c.toInt ≤ 255) (ha : ∀ j, j < st.length → s.2.2.1 4 j = (st.getD j 0).toInt) : isS s st.length (stB st) := by
  refine ⟨h1, hl, ⟨fun p p0 p1 => ?_, fun p hp => if_neg (by omega)⟩, fun p p0 p1 => ?_⟩
  · unfold stB
    rw [if_pos ⟨p0, p1⟩]
    exact hc _ (gD_mem (show p.toNat < st.length by omega))
  · rw [ha p.toNat (by omega)]
    exact (if_pos ⟨p0, p1⟩).symm
theorem isS_at {s : mS} {st : List Int32} (T : isS s st.length (stB st)) {j : Nat} (hj : j < st.length) : s.2.2.1 4 j = (st.getD j 0).toInt := by
  have := T.2.2.2 j (by omega) (by omega)
  rw [show ((j : Int)).toNat = j by omega] at this
  rw [this]
  unfold stB
  rw [if_pos ⟨by omega, by omega⟩, show ((j : Int)).toNat = j by omega]
section STP
variable {xs : List Int32} {t : Nat} {x4 o a b c : Int32} {h : ax_Hp} {s : mS} {K : Option Nat → Option Nat → Option Nat → Option Nat → Int32 → ax_Hp → ax_O}
theorem stp_write (I : INV xs t h s) (hr : rdI xs x4 o a b c) (op : (o &&& 15).toInt = 0) : stp xs t K x4 h := by
  obtain ⟨hm, hs, ⟨oo, oi, dr, di, tx, st, ys, D, M⟩, V, n1, n2⟩ := I
  obtain ⟨O, d1, d2, d3, d4, d5, d6, d7, d8, ⟨f, d9⟩, ⟨w, d10⟩, d11⟩ := id D
  obtain ⟨m1, m2, m3, m4, m5, m6, m7, m8⟩ := id M
  have ob := od_b O
  obtain ⟨h1, e1, R1, b1⟩ := Desk_write_J (m := 1389) (v := lgW a b) d1 rfl d2
  have T : h1 = mH h1 s := mIs_of hm (fun q a b => b1.2.2 q (by omega) (by omega))
  have tl := rowIs_le d2.1
  obtain ⟨s', e2, c0, c1, c2, c3, c4⟩ := Model_write_z (m := 1389) (v := lgW a b) (h := h1) (s := s) (xs := tx) m2.1 tl
  have hs1 : scI xs h1 := (b1.2.2 0 (by decide) (by decide)).trans hs
  have bo : ∀ q, q ≠ 2 → q ≠ 3 → h1.2.2 q = h.2.2 q := b1.2.2
  have ok : wrOk (lgW a b) tx = true → okAll (lgW a b) 8 0 = true := fun z => by unfold wrOk at z; rw [Bool.and_eq_true] at z; exact z.1
  have chars : ∀ c ∈ (if wrOk (lgW a b) tx = true then tx ++ nzC (lgW a b) 8 0 else tx), 32 ≤ c.toInt ∧ c.toInt ≤ 126 := fun c hc => by
    by_cases z : wrOk (lgW a b) tx = true
    · rw [if_pos z] at hc
      rcases List.mem_append.mp hc with y | y
      · exact m7 c y
      · exact nzC_b _ 8 0 (ok z) c y
    · rw [if_neg z] at hc; exact m7 c hc
  have at2 : ∀ j, j < (if wrOk (lgW a b) tx = true then tx ++ nzC (lgW a b) 8 0 else tx).length → s'.2.2.1 2 j = ((if wrOk (lgW a b) tx = true then tx ++ nzC (lgW a b) 8 0 else tx).getD j 0).toInt := fun j hj => by
    rw [c4 j]
    by_cases z : wrOk (lgW a b) tx = true
    · rw [if_pos z] at hj ⊢
      rw [List.length_append] at hj
      rw [gD_app]
      by_cases y : j < tx.length
      · rw [if_neg (by omega), if_pos y, tyT_at m2 y]
      · rw [if_pos ⟨z, by omega, by omega⟩, if_neg y]
    · rw [if_neg z] at hj ⊢
      rw [if_neg (fun y => z y.1), tyT_at m2 hj]
  have l' := rowIs_le R1.1
  refine ⟨_, s', turn_0 K hr op hs ⟨_, d1⟩ e1 hs1 (T ▸ obM_mH _ _) ((congrArg _ T).trans e2), INV_mk hs1 ⟨O, ?_, R1, rowJ_kept d3 (bo 8 (by decide) (by decide)) (bo 9 (by decide) (by decide)), rowJ_kept d4 (bo _ (by omega) (by omega)) (bo _ (by omega) (by omega)), drJ_kept d5 (bo _ (by omega) (by omega)) (bo _ (by omega) (by omega)), (bo 14 (by decide) (by decide)).trans d6, (bo 4 (by decide) (by decide)).trans d7, mk3_kept d8 (fun q a b => bo q (by omega) (by omega)), ⟨f, (bo 23 (by decide) (by decide)).trans d9⟩, ⟨w, (bo 59 (by decide) (by decide)).trans d10⟩, by rw [b1.1]; exact d11⟩ ⟨⟨by rw [c2 7 (by decide) (by decide)]; exact m1.1, fun i => by rw [c3 11 (by decide)]; exact m1.2.1 i, fun i => by rw [c3 12 (by decide)]; exact m1.2.2.1 i, fun i => ?_⟩, tyT_of c1 l' chars at2, ?_, by rw [c2 5 (by decide) (by decide)]; exact m4, m5, fun j hj => by rw [c3 6 (by decide)]; exact m6 j hj, chars, m8⟩ (vrA_kept V (fun q a b => bo q (by omega) (by omega)) (by rw [b1.1]; exact Nat.le_refl _) (fun q a b => bo q (by omega) (by omega)) (fun k hk => c3 k (by omega))) (by rw [b1.1]; omega) (by rw [b1.2.1]; omega)⟩
  · rw [bo 1 (by decide) (by decide), c2 9 (by decide) (by decide)]; exact d1
  · rw [c4 i]
    by_cases z : wrOk (lgW a b) tx = true ∧ tx.length ≤ i ∧ i < tx.length + (nzC (lgW a b) 8 0).length
    · rw [if_pos z]
      have := nzC_b _ 8 0 (ok z.1) _ (gD_mem (show i - tx.length < (nzC (lgW a b) 8 0).length by omega))
      omega
    · rw [if_neg z]; exact m1.2.2.2 i
  · unfold isS at *
    rw [c2 3 (by decide) (by decide), c3 4 (by decide)]
    exact m3
theorem stp_feed (I : INV xs t h s) (hr : rdI xs x4 o a b c) (op : (o &&& 15).toInt = 2) : stp xs t K x4 h := by
  obtain ⟨hm, hs, ⟨oo, oi, dr, di, tx, st, ys, D, M⟩, V, n1, n2⟩ := I
  obtain ⟨O, d1, d2, d3, d4, d5, d6, d7, d8, ⟨f, d9⟩, ⟨w, d10⟩, d11⟩ := id D
  obtain ⟨m1, m2, m3, m4, m5, m6, m7, m8⟩ := id M
  have ob := od_b O
  obtain ⟨h1, e1, R1, b1⟩ := Desk_feed_J (m := 1389) (v := lgW a b) (n := c) d1 rfl d3
  have T : h1 = mH h1 s := mIs_of hm (fun q a b => b1.2.2 q (by omega) (by omega))
  have tl := rowIs_le d3.1
  obtain ⟨s', e2, c0, c1, c2, c3, c4⟩ := Model_feed_z (m := 1389) (v := lgW a b) (n := c) (h := h1) (s := s) (len := st.length) m3.1 tl
  have hs1 : scI xs h1 := (b1.2.2 0 (by decide) (by decide)).trans hs
  have bo : ∀ q, q ≠ 8 → q ≠ 9 → h1.2.2 q = h.2.2 q := b1.2.2
  have c1' : s'.1 3 = ((if fdOk c st.length = true then st ++ byL (lgW a b) c.toNatClampNeg 0 else st).length : Nat) := by
    rw [c1]
    by_cases z : fdOk c st.length = true
    · rw [if_pos z, if_pos z, List.length_append, byL_len]
    · rw [if_neg z, if_neg z]
  have chars : ∀ x ∈ (if fdOk c st.length = true then st ++ byL (lgW a b) c.toNatClampNeg 0 else st), 0 ≤ x.toInt ∧ x.toInt ≤ 255 := fun x hx => by
    by_cases z : fdOk c st.length = true
    · rw [if_pos z] at hx
      rcases List.mem_append.mp hx with y | y
      · exact m8 x y
      · exact byL_b _ _ _ x y
    · rw [if_neg z] at hx; exact m8 x hx
  have at4 : ∀ j, j < (if fdOk c st.length = true then st ++ byL (lgW a b) c.toNatClampNeg 0 else st).length → s'.2.2.1 4 j = ((if fdOk c st.length = true then st ++ byL (lgW a b) c.toNatClampNeg 0 else st).getD j 0).toInt := fun j hj => by
    rw [c4 j]
    by_cases z : fdOk c st.length = true
    · rw [if_pos z] at hj ⊢
      rw [List.length_append, byL_len] at hj
      rw [gD_app]
      by_cases y : j < st.length
      · rw [if_neg (by omega), if_pos y, isS_at m3 y]
      · rw [if_pos ⟨z, by omega, by omega⟩, if_neg y]
    · rw [if_neg z] at hj ⊢
      rw [if_neg (fun y => z y.1), isS_at m3 hj]
  have l' := rowIs_le R1.1
  refine ⟨_, s', turn_2 K hr op hs ⟨_, d1⟩ e1 hs1 (T ▸ obM_mH _ _) ((congrArg _ T).trans e2), INV_mk hs1 ⟨O, ?_, rowJ_kept d2 (bo 2 (by decide) (by decide)) (bo 3 (by decide) (by decide)), R1, rowJ_kept d4 (bo _ (by omega) (by omega)) (bo _ (by omega) (by omega)), drJ_kept d5 (bo _ (by omega) (by omega)) (bo _ (by omega) (by omega)), (bo 14 (by decide) (by decide)).trans d6, (bo 4 (by decide) (by decide)).trans d7, mk3_kept d8 (fun q a b => bo q (by omega) (by omega)), ⟨f, (bo 23 (by decide) (by decide)).trans d9⟩, ⟨w, (bo 59 (by decide) (by decide)).trans d10⟩, by rw [b1.1]; exact d11⟩ ⟨mB_kept m1 (by rw [c2 7 (by decide) (by decide)]; exact m1.1) (fun k hk => c3 k (by omega)), ?_, isS_of c1' l' chars at4, by rw [c2 5 (by decide) (by decide)]; exact m4, m5, fun j hj => by rw [c3 6 (by decide)]; exact m6 j hj, m7, chars⟩ (vrA_kept V (fun q a b => bo q (by omega) (by omega)) (by rw [b1.1]; exact Nat.le_refl _) (fun q a b => bo q (by omega) (by omega)) (fun k hk => c3 k (by omega))) (by rw [b1.1]; omega) (by rw [b1.2.1]; omega)⟩
  · rw [bo 1 (by decide) (by decide), c2 9 (by decide) (by decide)]; exact d1
  · unfold tyT at *
    rw [c2 1 (by decide) (by decide), c3 2 (by decide)]
    exact m2
theorem stp_wipe (I : INV xs t h s) (hr : rdI xs x4 o a b c) (op : (o &&& 15).toInt = 1) : stp xs t K x4 h := by
  obtain ⟨hm, hs, ⟨oo, oi, dr, di, tx, st, ys, D, M⟩, V, n1, n2⟩ := I
  obtain ⟨O, d1, d2, d3, d4, d5, d6, d7, d8, ⟨f, d9⟩, ⟨w, d10⟩, d11⟩ := id D
  obtain ⟨m1, m2, m3, m4, m5, m6, m7, m8⟩ := id M
  have ob := od_b O
  obtain ⟨-, -, g, r1, r2, -⟩ := rowJ_un d2
  have e1 : ax_F 1391 9 [ax_A (some 1)] h = some (.inl (some (ax_I (Int32.ofInt tx.length))), ax_set h 2 (rwO 3 0)) := by
    rw [show (1391 : Nat) = 1390 + 1 from rfl, Desk_wipe_F]
    unfold Desk_wipe_b
    rw [pl_gr d1 (v := some 2) rfl, Option.bind_some, pl_on r1, pl_ci (show ax_F 1390 10 [ax_A (some 2)] h = _ from Row_clr (m := 1389) r1)]
    rfl
  have bo : ∀ q, q ≠ 2 → (ax_set h 2 (rwO 3 0)).2.2 q = h.2.2 q := fun q z => pl_ne z
  have R1 : rowJ (ax_set h 2 (rwO 3 0)) 2 3 160 [] := rowJ_nil pl_set ((bo 3 (by decide)).trans r2) (by omega) (by omega)
  have b1 : (ax_set h 2 (rwO 3 0)).1 = h.1 ∧ (ax_set h 2 (rwO 3 0)).2.1 = h.2.1 := ⟨rfl, rfl⟩
  generalize ax_set h 2 (rwO 3 0) = h1 at *
  have T : h1 = mH h1 s := mIs_of hm (fun q a b => bo q (by omega))
  have hs1 : scI xs h1 := (bo 0 (by decide)).trans hs
  have e2 := Model_wipe_z (m := 1390) (h := h1) (s := s)
  rw [show s.1 1 = tx.length from m2.1] at e2
  refine ⟨_, _, turn_1 K hr op hs ⟨_, d1⟩ e1 hs1 (T ▸ obM_mH _ _) ((congrArg _ T).trans e2), INV_mk (tx := []) hs1 ⟨O, (bo 1 (by decide)).trans d1, R1, rowJ_kept d3 (bo 8 (by decide)) (bo 9 (by decide)), rowJ_kept d4 (bo _ (by omega)) (bo _ (by omega)), drJ_kept d5 (bo _ (by omega)) (bo _ (by omega)), (bo 14 (by decide)).trans d6, (bo 4 (by decide)).trans d7, mk3_kept d8 (fun q a b => bo q (by omega)), ⟨f, (bo 23 (by decide)).trans d9⟩, ⟨w, (bo 59 (by decide)).trans d10⟩, by rw [b1.1]; exact d11⟩ ⟨m1, tyT_nil rfl, m3, m4, m5, m6, fun c hc => absurd hc List.not_mem_nil, m8⟩ (vrA_kept V (fun q a b => bo q (by omega)) (by rw [b1.1]; exact Nat.le_refl _) (fun q a b => bo q (by omega)) (fun _ _ => rfl)) (by rw [b1.1]; omega) (by rw [b1.2]; omega)⟩
theorem stp_drain (I : INV xs t h s) (hr : rdI xs x4 o a b c) (op : (o &&& 15).toInt = 3) : stp xs t K x4 h := by
  obtain ⟨hm, hs, ⟨oo, oi, dr, di, tx, st, ys, D, M⟩, V, n1, n2⟩ := I
  obtain ⟨O, d1, d2, d3, d4, d5, d6, d7, d8, ⟨f, d9⟩, ⟨w, d10⟩, d11⟩ := id D
  obtain ⟨m1, m2, m3, m4, m5, m6, m7, m8⟩ := id M
  have ob := od_b O
  obtain ⟨-, -, g, r1, r2, -⟩ := rowJ_un d3
  have e1 : ax_F 1391 12 [ax_A (some 1)] h = some (.inl (some (ax_I (Int32.ofInt st.length))), ax_set h 8 (rwO 9 0)) := by
    rw [show (1391 : Nat) = 1390 + 1 from rfl, Desk_drain_F]
    unfold Desk_drain_b
    rw [pl_gr d1 (v := some 8) rfl, Option.bind_some, pl_on r1, pl_ci (show ax_F 1390 10 [ax_A (some 8)] h = _ from Row_clr (m := 1389) r1)]
    rfl
  have bo : ∀ q, q ≠ 8 → (ax_set h 8 (rwO 9 0)).2.2 q = h.2.2 q := fun q z => pl_ne z
  have R1 : rowJ (ax_set h 8 (rwO 9 0)) 8 9 64 [] := rowJ_nil pl_set ((bo 9 (by decide)).trans r2) (by omega) (by omega)
  have b1 : (ax_set h 8 (rwO 9 0)).1 = h.1 ∧ (ax_set h 8 (rwO 9 0)).2.1 = h.2.1 := ⟨rfl, rfl⟩
  generalize ax_set h 8 (rwO 9 0) = h1 at *
  have T : h1 = mH h1 s := mIs_of hm (fun q a b => bo q (by omega))
  have hs1 : scI xs h1 := (bo 0 (by decide)).trans hs
  have e2 := Model_drain_z (m := 1390) (h := h1) (s := s)
  rw [show s.1 3 = st.length from m3.1] at e2
  refine ⟨_, _, turn_3 K hr op hs ⟨_, d1⟩ e1 hs1 (T ▸ obM_mH _ _) ((congrArg _ T).trans e2), INV_mk (st := []) hs1 ⟨O, (bo 1 (by decide)).trans d1, rowJ_kept d2 (bo 2 (by decide)) (bo 3 (by decide)), R1, rowJ_kept d4 (bo _ (by omega)) (bo _ (by omega)), drJ_kept d5 (bo _ (by omega)) (bo _ (by omega)), (bo 14 (by decide)).trans d6, (bo 4 (by decide)).trans d7, mk3_kept d8 (fun q a b => bo q (by omega)), ⟨f, (bo 23 (by decide)).trans d9⟩, ⟨w, (bo 59 (by decide)).trans d10⟩, by rw [b1.1]; exact d11⟩ ⟨m1, m2, isS_nil rfl, m4, m5, m6, m7, fun c hc => absurd hc List.not_mem_nil⟩ (vrA_kept V (fun q a b => bo q (by omega)) (by rw [b1.1]; exact Nat.le_refl _) (fun q a b => bo q (by omega)) (fun _ _ => rfl)) (by rw [b1.1]; omega) (by rw [b1.2]; omega)⟩
theorem stp_place (I : INV xs t h s) (hr : rdI xs x4 o a b c) (op : (o &&& 15).toInt = 12) : stp xs t K x4 h := by
  obtain ⟨hm, hs, ⟨oo, oi, dr, di, tx, st, ys, D, M⟩, V, n1, n2⟩ := I
  have d1 := D.2.1
  have e1 := Desk_place_e (m := 1390) d1 rfl
  have e2 := Model_place_z (m := 1390) (h := h) (s := s)
  exact ⟨_, _, turn_12 K hr op hs ⟨_, d1⟩ e1 hs (hm ▸ obM_mH _ _) ((congrArg _ hm).trans e2), INV_mk hs D M V (by omega) (by omega)⟩
theorem stp_none (I : INV xs t h s) (hr : rdI xs x4 o a b c) (op : 13 < (o &&& 15).toInt) : stp xs t K x4 h := by
  obtain ⟨hm, hs, I3, V, n1, n2⟩ := I
  exact ⟨h, s, turn_d K hr (fun j _ _ => by omega) hs, hm, hs, I3, V, by omega, by omega⟩
end STP
