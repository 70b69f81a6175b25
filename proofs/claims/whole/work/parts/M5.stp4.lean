theorem kp_of {s s' : mS} (h1 : s'.1 1 = s.1 1) (h3 : s'.1 3 = s.1 3) (h5 : s'.1 5 = s.1 5) (h9 : s'.1 9 = s.1 9) (k : ∀ k, k = 2 ∨ k = 4 ∨ k = 6 ∨ k = 10 ∨ k = 11 ∨ k = 12 ∨ k = 13 → s'.2.2.1 k = s.2.2.1 k) : kpF s s' := ⟨fun j hj => by rcases hj with z | z | z | z <;> subst z <;> assumption, k⟩
theorem txV_f {tx : List Int32} {f : Nat → Int} (hf : ∀ j, j < tx.length → f j = (tx.getD j 0).toInt) (hc : ∀ c ∈ tx, 32 ≤ c.toInt ∧ c.toInt ≤ 126) : ∀ q : Int, 0 ≤ q → q < tx.length → f q.toNat = txV tx q ∧ 1 ≤ txV tx q ∧ txV tx q < 128 := fun q q0 q1 => by
  unfold txV
  rw [if_pos ⟨q0, q1⟩, hf q.toNat (by omega)]
  have := hc _ (gD_mem (show q.toNat < tx.length by omega))
  omega
theorem stB_f {st : List Int32} {f : Nat → Int} (hf : ∀ j, j < st.length → f j = (st.getD j 0).toInt) : ∀ q : Int, 0 ≤ q → q < st.length → f q.toNat = stB st q := fun q q0 q1 => by
  unfold stB
  rw [if_pos ⟨q0, q1⟩, hf q.toNat (by omega)]
section STR
variable {xs : List Int32} {t : Nat} {x4 o a b c : Int32} {h : ax_Hp} {s : mS} {K : Option Nat → Option Nat → Option Nat → Option Nat → Int32 → ax_Hp → ax_O}
theorem stp_reads (I : INV xs t h s) (ht : t ≤ 511) (hr : rdI xs x4 o a b c) (op : (o &&& 15).toInt = 7) : stp xs t K x4 h := by
  obtain ⟨hm, hs, ⟨oo, oi, dr, di, tx, st, ys, D, M⟩, V, n1, n2⟩ := id I
  obtain ⟨O, d1, -, -, -, -, d6, -, -, -, ⟨w, d10⟩, d11⟩ := id D
  obtain ⟨za, ea, za0, za1⟩ := zi_of a
  obtain ⟨zb, eb, zb0, zb1⟩ := zi_of b
  obtain ⟨zc, ec, zc0, zc1⟩ := zi_of c
  by_cases q : vOk za zb (s.2.2.1 11) ∧ vOk za zc (s.2.2.1 11)
  · obtain ⟨sr, lr, cr, re, rn, ru, f1, f2, f3⟩ := ver_at (m := 1387) za1 zb1 d1 d6 V q.1
    obtain ⟨sw, lw, cw, we, wn, wu, g1, g2, g3⟩ := ver_at (m := 1387) za1 zc1 d1 d6 V q.2
    have e0 := Desk_reads_y (m := 1359) d1 f2 g2 f1 g1
    have e1 := Law_reads_v (m := 1390) d1 e0 d10
    have T := set59_T (w := ax_L (if Int32.ofInt (bI (crd cr cw 13 6 6 0 0)) = 0 then 0 else 1)) I
    obtain ⟨s', e2, k2, k7, k0⟩ := Model_reads_y (m := 1380) (h := ax_set h 59 (.inr (2, [ax_L (if Int32.ofInt (bI (crd cr cw 13 6 6 0 0)) = 0 then 0 else 1)]))) za0 za1 zb0 zb1 zc0 zc1 M.1 q.1 q.2 f3 g3
    rw [← ea, ← eb, ← ec] at e1 e2
    have k1 : scI xs (ax_set h 59 (.inr (2, [ax_L (if Int32.ofInt (bI (crd cr cw 13 6 6 0 0)) = 0 then 0 else 1)]))) := (pl_ne (show 0 ≠ 59 by decide)).trans hs
    exact ⟨_, _, turn_7 (kk := 0) K hr op hs e1 k1 (T ▸ obM_mH _ _) ((congrArg _ T).trans e2) rfl ((mF_0 _).trans (by rw [k0]; rfl)) (fun _ => (mH_o _ _ (Or.inr (by decide))).trans pl_set), INV_59 I k2 (by rw [k7]; exact M.1.1)⟩
  · obtain ⟨gs, cc, x1, x2⟩ := sub_gs za0 za1 V
    have T := thr_T I
    have e2 := Model_reads_no (m := 1388) (h := thr h) za0 za1 zb0 zb1 zc0 zc1 M.1.2.1 q
    have e1 := Law_reads_no (m := 1387) (o := some 59) d1 rfl d6 x1 (fun y => q ⟨((x2 zb zb0 zb1).1).mp y.1, ((x2 zc zc0 zc1).1).mp y.2⟩) (fun y => by
      obtain ⟨b', ks, a', k1, k2, k3, -⟩ := (x2 zb zb0 zb1).2 (((x2 zb zb0 zb1).1).mp y)
      exact ⟨b', ks, a', k1, k2, k3⟩) (rm_c (by omega)) (rm_s (by omega))
    rw [← ea, ← eb, ← ec] at e1 e2
    exact ⟨_, _, turn_7 (kk := 1) K hr op hs e1 (scI_thr hs) (T ▸ obM_mH _ _) ((congrArg _ T).trans e2) rfl (mF_0 _) (fun y => absurd y (by decide)), INV_thr I (kpF_I (by decide)) rfl⟩
theorem stp_print (I : INV xs t h s) (ht : t ≤ 511) (hr : rdI xs x4 o a b c) (op : (o &&& 15).toInt = 8) : stp xs t K x4 h := by
  obtain ⟨hm, hs, ⟨oo, oi, dr, di, tx, st, ys, D, M⟩, V, n1, n2⟩ := id I
  obtain ⟨O, d1, d2, d3, d4, ⟨nd, fd, d5, d5i⟩, d6, d7, d8, ⟨f, d9⟩, ⟨w, d10⟩, d11⟩ := id D
  obtain ⟨m1, m2, m3, m4, m5, m6, m7, m8⟩ := id M
  have ob := od_b O
  obtain ⟨za, ea, za0, za1⟩ := zi_of a
  obtain ⟨zb, eb, zb0, zb1⟩ := zi_of b
  by_cases q : vOk za zb (s.2.2.1 11)
  · obtain ⟨sc, l, cv, fe, fn, fu, f1, f2, f3⟩ := ver_at (m := 1387) za1 zb1 d1 d6 V q
    have l160 := f2.2.2.2.2.2.2.2.2.1
    obtain ⟨h1, L, p1, p2, p3, p4, p5, p6, p7, p8⟩ := Desk_print_y (m := 1386) (b := if c = 0 then 0 else 1) O d1 d5 d5i f2 f1
    have e1 := Law_print_v (m := 1390) d1 p1 ((p8 59 (by decide) (by omega) (by omega)).trans d10)
    have b1 : ∀ x, x ≠ 59 → (ax_set h1 59 (.inr (2, [ax_L (Int32.ofInt (L.length : Int)).toInt64]))).2.2 x = h1.2.2 x := fun x z => pl_ne z
    have b59 : (ax_set h1 59 (.inr (2, [ax_L (Int32.ofInt (L.length : Int)).toInt64]))).2.2 59 = some (.inr (2, [ax_L (Int32.ofInt (L.length : Int)).toInt64])) := pl_set
    have bl : (ax_set h1 59 (.inr (2, [ax_L (Int32.ofInt (L.length : Int)).toInt64]))).1 = h.1 ∧ (ax_set h1 59 (.inr (2, [ax_L (Int32.ofInt (L.length : Int)).toInt64]))).2.1 = h.2.1 := ⟨p3, p4⟩
    generalize ax_set h1 59 (.inr (2, [ax_L (Int32.ofInt (L.length : Int)).toInt64])) = h2 at *
    have bo : ∀ x, x ≠ 1 → x ≠ dr → x ≠ di → x ≠ 59 → h2.2.2 x = h.2.2 x := fun x z1 z2 z3 z4 => (b1 x z4).trans (p8 x z1 z2 z3)
    have T : h2 = mH h2 s := mIs_of hm (fun x a b => bo x (by omega) (by omega) (by omega) (by omega))
    obtain ⟨s', L', e2, u1, u2, u3, u4, u5, u6, u7, u8, u9⟩ := Model_print_y (m := 1379) (h := h2) (b := if c = 0 then 0 else 1) za0 za1 zb0 zb1 m1 q f3
    have hLL : L' = L := shL_u u1 p2
    subst hLL
    have ll := shL_len p2
    rw [← ea, ← eb] at e1 e2
    have hs1 : scI xs h2 := (bo 0 (by decide) (by omega) (by omega) (by decide)).trans hs
    refine ⟨_, _, turn_8 (kk := 0) K hr op hs e1 hs1 (T ▸ obM_mH _ _) ((congrArg _ T).trans e2) rfl ((mF_0 _).trans (by rw [u2]; rfl)) (fun _ => (mH_o _ _ (Or.inr (by decide))).trans b59), INV_fill (L := L') (f' := lsF fd L') hs D V n1 n2 (fun x x1 x2 x3 x4 x5 x6 x7 x8 x9 x10 x11 => bo x x2 x8 x9 x11) (by rw [b1 1 (by decide), p5, u6]) (rowJ_kept d2 (bo 2 (by decide) (by omega) (by omega) (by decide)) (bo 3 (by decide) (by omega) (by omega) (by decide))) (rowJ_kept d3 (bo 8 (by decide) (by omega) (by omega) (by decide)) (bo 9 (by decide) (by omega) (by omega) (by decide))) (by rw [b1 dr (by omega), p6]) (by rw [b1 di (by omega), p7]) (fun j hj => if_pos hj) (by omega) (mk3_kept d8 (fun x a b => bo x (by omega) (by omega) (by omega) (by omega))) ⟨f, (bo 23 (by decide) (by omega) (by omega) (by decide)).trans d9⟩ ⟨_, b59⟩ (by rw [bl.1]; exact Nat.le_refl _) (by rw [bl.1]; exact Nat.le_add_right _ _) (by rw [bl.2]; exact Nat.le_add_right _ _) (mB_kept m1 u7 (fun k hk => u8 k (by omega))) ?_ ?_ u5 u9 m7 m8 (fun k hk => u8 k (by omega))⟩
    · unfold tyT at *
      rw [u3, u8 2 (by omega)]
      exact m2
    · unfold isS at *
      rw [u4, u8 4 (by omega)]
      exact m3
  · obtain ⟨gs, cc, x1, x2⟩ := sub_gs za0 za1 V
    have T := thr_T I
    have e2 := Model_print_no (m := 1388) (c := if c = 0 then 0 else 1) (h := thr h) za0 za1 zb0 zb1 m1.2.1 q
    have e1 := Law_print_no (m := 1387) (b := if c = 0 then 0 else 1) (o := some 59) d1 rfl d6 x1 (fun y => q (((x2 zb zb0 zb1).1).mp y)) (rm_c (by omega)) (rm_s (by omega))
    rw [← ea, ← eb] at e1 e2
    exact ⟨_, _, turn_8 (kk := 1) K hr op hs e1 (scI_thr hs) (T ▸ obM_mH _ _) ((congrArg _ T).trans e2) rfl (mF_0 _) (fun y => absurd y (by decide)), INV_thr I (kpF_I (by decide)) rfl⟩
theorem stp_finger (I : INV xs t h s) (ht : t ≤ 511) (hr : rdI xs x4 o a b c) (op : (o &&& 15).toInt = 9) : stp xs t K x4 h := by
  obtain ⟨hm, hs, ⟨oo, oi, dr, di, tx, st, ys, D, M⟩, V, n1, n2⟩ := id I
  obtain ⟨O, d1, d2, d3, d4, ⟨nd, fd, d5, d5i⟩, d6, d7, d8, ⟨f, d9⟩, ⟨w, d10⟩, d11⟩ := id D
  obtain ⟨m1, m2, m3, m4, m5, m6, m7, m8⟩ := id M
  have ob := od_b O
  obtain ⟨za, ea, za0, za1⟩ := zi_of a
  obtain ⟨zb, eb, zb0, zb1⟩ := zi_of b
  by_cases q : vOk za zb (s.2.2.1 11)
  · obtain ⟨sc, l, cv, fe, fn, fu, f1, f2, f3⟩ := ver_at (m := 1387) za1 zb1 d1 d6 V q
    obtain ⟨h1, L, p1, p2, p3, p4, p6, p7, p8⟩ := Desk_finger_y (m := 1386) O d1 d5 d5i f2 f1
    have e1 := Law_finger_v (m := 1390) d1 p1 ((p8 59 (by omega) (by omega)).trans d10)
    have b1 : ∀ x, x ≠ 59 → (ax_set h1 59 (.inr (2, [ax_L (L.foldl fpS (-4513414715797952619))]))).2.2 x = h1.2.2 x := fun x z => pl_ne z
    have b59 : (ax_set h1 59 (.inr (2, [ax_L (L.foldl fpS (-4513414715797952619))]))).2.2 59 = some (.inr (2, [ax_L (L.foldl fpS (-4513414715797952619))])) := pl_set
    have bl : (ax_set h1 59 (.inr (2, [ax_L (L.foldl fpS (-4513414715797952619))]))).1 = h.1 ∧ (ax_set h1 59 (.inr (2, [ax_L (L.foldl fpS (-4513414715797952619))]))).2.1 = h.2.1 := ⟨p3, p4⟩
    generalize ax_set h1 59 (.inr (2, [ax_L (L.foldl fpS (-4513414715797952619))])) = h2 at *
    have bo : ∀ x, x ≠ dr → x ≠ di → x ≠ 59 → h2.2.2 x = h.2.2 x := fun x z2 z3 z4 => (b1 x z4).trans (p8 x z2 z3)
    have T : h2 = mH h2 s := mIs_of hm (fun x a b => bo x (by omega) (by omega) (by omega))
    obtain ⟨s', L', e2, u1, u2, u3, u4⟩ := Model_finger_y (m := 1379) (h := h2) za0 za1 zb0 zb1 m1 q f3
    have hLL : L' = L := shL_u u1 p2
    subst hLL
    rw [← ea, ← eb] at e1 e2
    have hs1 : scI xs h2 := (bo 0 (by omega) (by omega) (by decide)).trans hs
    exact ⟨_, _, turn_9 (kk := 0) K hr op hs e1 hs1 (T ▸ obM_mH _ _) ((congrArg _ T).trans e2) rfl ((mF_0 _).trans (by rw [u2]; rfl)) (fun _ => (mH_o _ _ (Or.inr (by decide))).trans b59), INV_run (tx' := tx) (st' := st) hs D V n1 n2 (fun x x1 x2 x3 x4 x5 x6 x7 x8 x9 x10 x11 => bo x x8 x9 x11) (by rw [bo 1 (by omega) (by omega) (by decide), u3.1 9 (by omega)]; exact d1) (rowJ_kept d2 (bo 2 (by omega) (by omega) (by decide)) (bo 3 (by omega) (by omega) (by decide))) (rowJ_kept d3 (bo 8 (by omega) (by omega) (by decide)) (bo 9 (by omega) (by omega) (by decide))) ⟨_, _, (b1 dr (by omega)).trans p6, (b1 di (by omega)).trans p7⟩ (mk3_kept d8 (fun x a b => bo x (by omega) (by omega) (by omega))) ⟨f, (bo 23 (by omega) (by omega) (by decide)).trans d9⟩ ⟨_, b59⟩ (by rw [bl.1]; exact Nat.le_refl _) (by rw [bl.1]; exact Nat.le_add_right _ _) (by rw [bl.2]; exact Nat.le_add_right _ _) (mdJ_kept M u4 (u3.1 1 (by omega)) (u3.1 3 (by omega)) (u3.1 5 (by omega)) (fun k hk => u3.2 k (by omega))) (fun k hk => u3.2 k (by omega))⟩
  · obtain ⟨gs, cc, x1, x2⟩ := sub_gs za0 za1 V
    have T := thr_T I
    have e2 := Model_fingerprint_no (m := 1388) (h := thr h) za0 za1 zb0 zb1 m1.2.1 q
    have e1 := Law_fingerprint_no (m := 1387) (o := some 59) d1 rfl d6 x1 (fun y => q (((x2 zb zb0 zb1).1).mp y)) (rm_c (by omega)) (rm_s (by omega))
    rw [← ea, ← eb] at e1 e2
    exact ⟨_, _, turn_9 (kk := 1) K hr op hs e1 (scI_thr hs) (T ▸ obM_mH _ _) ((congrArg _ T).trans e2) rfl (mF_0 _) (fun y => absurd y (by decide)), INV_thr I (kpF_I (by decide)) rfl⟩
end STR
