section STS
variable {xs : List Int32} {t : Nat} {x4 o a b c : Int32} {h : ax_Hp} {s : mS} {K : Option Nat → Option Nat → Option Nat → Option Nat → Int32 → ax_Hp → ax_O}
theorem stp_encode (I : INV xs t h s) (ht : t ≤ 511) (hr : rdI xs x4 o a b c) (op : (o &&& 15).toInt = 10) : stp xs t K x4 h := by
  obtain ⟨hm, hs, ⟨oo, oi, dr, di, tx, st, ys, D, M⟩, V, n1, n2⟩ := id I
  obtain ⟨O, d1, d2, d3, d4, ⟨nd, fd, d5, d5i⟩, d6, d7, d8, ⟨f, d9⟩, ⟨w, d10⟩, d11⟩ := id D
  obtain ⟨m1, m2, m3, m4, m5, m6, m7, m8⟩ := id M
  have ob := od_b O
  obtain ⟨za, ea, za0, za1⟩ := zi_of a
  obtain ⟨zb, eb, zb0, zb1⟩ := zi_of b
  by_cases q : vOk za zb (s.2.2.1 11)
  · obtain ⟨sc, l, cv, fe, fn, fu, f1, f2, f3⟩ := ver_at (m := 1387) za1 zb1 d1 d6 V q
    obtain ⟨tl, -, ft, t1, t2, t3⟩ := rowJ_un d2
    obtain ⟨E1, E2⟩ := Desk_encode_y (m := 1371) (v := txV tx) O d11 d1 t1 t2 d5 d5i f2 f1 tl (txV_f t3 m7) (fun p hp => m2.2.2.2.2.1 p hp) (fun p => m2.2.2.2.2.2 p) (rm_c (by omega)) (rm_s (by omega))
    have hL : spVal cv (txV tx) true 6 0 0 = tx.length → (spO 1 cv (txV tx) true 6 0 0).length ≤ 160 := fun he => by
      obtain ⟨-, -, -, -, -, -, -, -, -, -, y, -⟩ := E1 he
      omega
    by_cases ok : spVal cv (txV tx) true 6 0 0 = tx.length
    · obtain ⟨h1, f', p1, p2, p3, p4, p5, p6, p7, p8, p9, p10⟩ := E1 ok
      clear E1 E2
      have e1 := Law_encode_v (m := 1390) d1 p1 ((p10 59 (by omega) (by decide) (by decide) (by omega) (by omega)).trans d10)
      have hL := hL ok
      have F := fun hh => (Model_encode_y (m := 1380) (h := hh) za0 za1 zb0 zb1 m1 q f3 m2 (fun _ => hL)).1 ok
      generalize spO 1 cv (txV tx) true 6 0 0 = L at *
      have b1 : ∀ x, x ≠ 59 → (ax_set h1 59 (.inr (2, [ax_L (Int32.ofInt (L.length : Int)).toInt64]))).2.2 x = h1.2.2 x := fun x z => pl_ne z
      have b59 : (ax_set h1 59 (.inr (2, [ax_L (Int32.ofInt (L.length : Int)).toInt64]))).2.2 59 = some (.inr (2, [ax_L (Int32.ofInt (L.length : Int)).toInt64])) := pl_set
      have bl : (ax_set h1 59 (.inr (2, [ax_L (Int32.ofInt (L.length : Int)).toInt64]))).1 = h.1 + 2 ∧ (ax_set h1 59 (.inr (2, [ax_L (Int32.ofInt (L.length : Int)).toInt64]))).2.1 = h.2.1 + 7 := ⟨p2, p3⟩
      generalize ax_set h1 59 (.inr (2, [ax_L (Int32.ofInt (L.length : Int)).toInt64])) = h2 at *
      have bo : ∀ x, x ≤ h.1 → x ≠ 1 → x ≠ 2 → x ≠ dr → x ≠ di → x ≠ 59 → h2.2.2 x = h.2.2 x := fun x z0 z1 z2 z3 z4 z5 => (b1 x z5).trans (p10 x z0 z1 z2 z3 z4)
      have T : h2 = mH h2 s := mIs_of hm (fun x a b => bo x (by omega) (by omega) (by omega) (by omega) (by omega) (by omega))
      obtain ⟨s', e2, u0, u1, u3, u5, u9, u7, uk, u6⟩ := F h2
      rw [← ea, ← eb] at e1 e2
      have hs1 : scI xs h2 := (bo 0 (by omega) (by decide) (by decide) (by omega) (by omega) (by decide)).trans hs
      refine ⟨_, _, turn_10 (kk := 0) K hr op hs e1 hs1 (T ▸ obM_mH _ _) ((congrArg _ T).trans e2) rfl ((mF_0 _).trans (by rw [u0]; rfl)) (fun _ => (mH_o _ _ (Or.inr (by decide))).trans b59), INV_fill (L := L) (f' := f') (tx' := []) hs D V n1 n2 (fun x x1 x2 x3 x4 x5 x6 x7 x8 x9 x10 x11 => bo x x1 x2 x3 x8 x9 x11) (by rw [b1 1 (by decide), p4, u9]; rfl) (rowJ_nil ((b1 2 (by decide)).trans p5) ((bo 3 (by omega) (by decide) (by decide) (by omega) (by omega) (by decide)).trans t2) (by decide) (by decide)) (rowJ_kept d3 (bo 8 (by omega) (by decide) (by decide) (by omega) (by omega) (by decide)) (bo 9 (by omega) (by decide) (by decide) (by omega) (by omega) (by decide))) (by rw [b1 dr (by omega), p6]) (by rw [b1 di (by omega), p7]) p8 (by omega) (mk3_kept d8 (fun x a b => bo x (by omega) (by omega) (by omega) (by omega) (by omega) (by omega))) ⟨f, (bo 23 (by omega) (by decide) (by decide) (by omega) (by omega) (by decide)).trans d9⟩ ⟨_, b59⟩ (by rw [bl.1]; exact Nat.le_add_right _ _) (by rw [bl.1]; exact Nat.add_le_add_left (by decide) _) (by rw [bl.2]; exact Nat.add_le_add_left (by decide) _) (mB_kept m1 u7 (fun k hk => uk k (by omega))) (tyT_nil u1) ?_ u5 u6 (fun c hc => absurd hc List.not_mem_nil) m8 (fun k hk => uk k (by omega))⟩
      unfold isS at *
      rw [u3, uk 4 (by omega)]
      exact m3
    · obtain ⟨h1, nd', f', p1, p2, p3, p4, p5, p6, p7⟩ := E2 ok
      clear E1 E2
      have e1 := Law_encode_x (m := 1390) d1 p1
      have bo := p7
      have T : h1 = mH h1 s := mIs_of hm (fun x a b => bo x (by omega) (by omega) (by omega) (by omega))
      obtain ⟨s', e2, u0, u1, u3, u5, u9, u7, uk⟩ := (Model_encode_y (m := 1380) (h := h1) za0 za1 zb0 zb1 m1 q f3 m2 hL).2 ok
      rw [← ea, ← eb] at e1 e2
      have hs1 : scI xs h1 := (bo 0 (by omega) (by decide) (by omega) (by omega)).trans hs
      exact ⟨_, _, turn_10 (kk := 1) K hr op hs e1 hs1 (T ▸ obM_mH _ _) ((congrArg _ T).trans e2) rfl ((mF_0 _).trans (by rw [u0]; rfl)) (fun y => absurd y (by decide)), INV_run (tx' := tx) (st' := st) hs D V n1 n2 (fun x x1 x2 x3 x4 x5 x6 x7 x8 x9 x10 x11 => bo x x1 x2 x8 x9) (by rw [p4, u9]) (rowJ_kept d2 (bo 2 (by omega) (by omega) (by omega) (by omega)) (bo 3 (by omega) (by omega) (by omega) (by omega))) (rowJ_kept d3 (bo 8 (by omega) (by omega) (by omega) (by omega)) (bo 9 (by omega) (by omega) (by omega) (by omega))) ⟨_, _, p5, p6⟩ (mk3_kept d8 (fun x a b => bo x (by omega) (by omega) (by omega) (by omega))) ⟨f, (bo 23 (by omega) (by omega) (by omega) (by omega)).trans d9⟩ ⟨w, (bo 59 (by omega) (by omega) (by omega) (by omega)).trans d10⟩ (by rw [p2]; exact Nat.le_add_right _ _) (by rw [p2]; exact Nat.add_le_add_left (by decide) _) (by rw [p3]; exact Nat.add_le_add_left (by decide) _) (mdJ_kept M u7 u1 u3 u5 (fun k hk => uk k (by omega))) (fun k hk => uk k (by omega))⟩
  · obtain ⟨gs, cc, x1, x2⟩ := sub_gs za0 za1 V
    have T := thr_T I
    have e2 := Model_encode_no (m := 1388) (h := thr h) za0 za1 zb0 zb1 m1.2.1 q
    have e1 := Law_encode_no (m := 1387) (o := some 59) d1 rfl d6 x1 (fun y => q (((x2 zb zb0 zb1).1).mp y)) (rm_c (by omega)) (rm_s (by omega))
    rw [← ea, ← eb] at e1 e2
    exact ⟨_, _, turn_10 (kk := 1) K hr op hs e1 (scI_thr hs) (T ▸ obM_mH _ _) ((congrArg _ T).trans e2) rfl (mF_0 _) (fun y => absurd y (by decide)), INV_thr I (kpF_I (by decide)) rfl⟩
theorem stp_decode (I : INV xs t h s) (ht : t ≤ 511) (hr : rdI xs x4 o a b c) (op : (o &&& 15).toInt = 11) : stp xs t K x4 h := by
  obtain ⟨hm, hs, ⟨oo, oi, dr, di, tx, st, ys, D, M⟩, V, n1, n2⟩ := id I
  obtain ⟨O, d1, d2, d3, d4, ⟨nd, fd, d5, d5i⟩, d6, d7, d8, ⟨f, d9⟩, ⟨w, d10⟩, d11⟩ := id D
  obtain ⟨m1, m2, m3, m4, m5, m6, m7, m8⟩ := id M
  have ob := od_b O
  obtain ⟨za, ea, za0, za1⟩ := zi_of a
  obtain ⟨zb, eb, zb0, zb1⟩ := zi_of b
  obtain ⟨zc, ec, zc0, zc1⟩ := zi_of c
  by_cases q : vOk za zb (s.2.2.1 11) ∧ vOk za zc (s.2.2.1 11)
  · obtain ⟨sw, lw, cw, we, wn, wu, f1, f2, f3⟩ := ver_at (m := 1387) za1 zb1 d1 d6 V q.1
    obtain ⟨sr, lr, cr, re, rn, ru, g1, g2, g3⟩ := ver_at (m := 1387) za1 zc1 d1 d6 V q.2
    obtain ⟨tl, -, ft, t1, t2, t3⟩ := rowJ_un d3
    obtain ⟨E1, E2, E3⟩ := Desk_decode_y (m := 1308) (b := stB st) O d11 d1 t1 t2 tl m3.2.2.1 (stB_f t3) d5 d5i d9 f2 g2 f1 g1 (rm_c (by omega)) (rm_s (by omega))
    have F := fun hh => Model_decode_y (m := 1380) (h := hh) za0 za1 zb0 zb1 zc0 zc1 m1 q.1 q.2 f3 g3 m3
    by_cases ok : spSc cw (stB st) 6 0 0 = st.length
    · cases co : okL (rsv cr cw (stB st) 13 6 6 0 0 0) [] with
      | false =>
        obtain ⟨h1, nd', f', g', p1, p2, p3, p4, p5, p6, p7⟩ := E2 ok co
        clear E1 E2 E3
        have e1 := Law_decode_x1 (m := 1390) d1 p1
        have bo := p7
        have T : h1 = mH h1 s := mIs_of hm (fun x a b => bo x (by omega) (by omega) (by omega) (by omega))
        obtain ⟨s', e2, u0, u1, u3, u5, u9, u7, uk⟩ := (F h1).2.1 ok co
        clear F
        rw [← ea, ← eb, ← ec] at e1 e2
        have hs1 : scI xs h1 := (bo 0 (by omega) (by omega) (by omega) (by decide)).trans hs
        exact ⟨_, _, turn_11 (kk := 2) K hr op hs e1 hs1 (T ▸ obM_mH _ _) ((congrArg _ T).trans e2) rfl ((mF_0 _).trans (by rw [u0]; rfl)) (fun y => absurd y (by decide)), INV_run (tx' := tx) (st' := st) hs D V n1 n2 (fun x x1 x2 x3 x4 x5 x6 x7 x8 x9 x10 x11 => bo x x1 x8 x9 x10) (by rw [bo 1 (by omega) (by omega) (by omega) (by decide), u9]; exact d1) (rowJ_kept d2 (bo 2 (by omega) (by omega) (by omega) (by omega)) (bo 3 (by omega) (by omega) (by omega) (by omega))) (rowJ_kept d3 (bo 8 (by omega) (by omega) (by omega) (by omega)) (bo 9 (by omega) (by omega) (by omega) (by omega))) ⟨_, _, p4, p5⟩ (mk3_kept d8 (fun x a b => bo x (by omega) (by omega) (by omega) (by omega))) ⟨_, p6⟩ ⟨w, (bo 59 (by omega) (by omega) (by omega) (by omega)).trans d10⟩ (by rw [p2]; exact Nat.le_add_right _ _) (by rw [p2]; exact Nat.add_le_add_left (by decide) _) (by rw [p3]; exact Nat.add_le_add_left (by decide) _) (mdJ_kept M u7 u1 u3 u5 (fun k hk => uk k (by omega))) (fun k hk => uk k (by omega))⟩
      | true =>
        obtain ⟨L, hL1, hL2⟩ := okL_t.mp co
        rw [List.length_nil, Nat.zero_add] at hL2
        obtain ⟨h1, f', g', p1, p2, p3, p4, p5, p6, p7, p8, p9, p10⟩ := E3 ok L hL1 hL2
        clear E1 E2 E3
        have e1 := Law_decode_v (m := 1390) d1 p1 ((p10 59 (by omega) (by decide) (by decide) (by omega) (by omega) (by decide)).trans d10)
        have b1 : ∀ x, x ≠ 59 → (ax_set h1 59 (.inr (2, [ax_L (Int32.ofInt (L.length : Int)).toInt64]))).2.2 x = h1.2.2 x := fun x z => pl_ne z
        have b59 : (ax_set h1 59 (.inr (2, [ax_L (Int32.ofInt (L.length : Int)).toInt64]))).2.2 59 = some (.inr (2, [ax_L (Int32.ofInt (L.length : Int)).toInt64])) := pl_set
        have bl : (ax_set h1 59 (.inr (2, [ax_L (Int32.ofInt (L.length : Int)).toInt64]))).1 = h.1 + 4 ∧ (ax_set h1 59 (.inr (2, [ax_L (Int32.ofInt (L.length : Int)).toInt64]))).2.1 = h.2.1 + 15 := ⟨p2, p3⟩
        generalize ax_set h1 59 (.inr (2, [ax_L (Int32.ofInt (L.length : Int)).toInt64])) = h2 at *
        have bo : ∀ x, x ≤ h.1 → x ≠ 1 → x ≠ 8 → x ≠ dr → x ≠ di → x ≠ 23 → x ≠ 59 → h2.2.2 x = h.2.2 x := fun x z0 z1 z2 z3 z4 z5 z6 => (b1 x z6).trans (p10 x z0 z1 z2 z3 z4 z5)
        have T : h2 = mH h2 s := mIs_of hm (fun x a b => bo x (by omega) (by omega) (by omega) (by omega) (by omega) (by omega) (by omega))
        obtain ⟨s', e2, u0, u1, u3, u5, u9, u7, uk, u6⟩ := (F h2).2.2 ok L hL1 hL2
        clear F
        rw [← ea, ← eb, ← ec] at e1 e2
        have hs1 : scI xs h2 := (bo 0 (by omega) (by decide) (by decide) (by omega) (by omega) (by decide) (by decide)).trans hs
        refine ⟨_, _, turn_11 (kk := 0) K hr op hs e1 hs1 (T ▸ obM_mH _ _) ((congrArg _ T).trans e2) rfl ((mF_0 _).trans (by rw [u0]; rfl)) (fun _ => (mH_o _ _ (Or.inr (by decide))).trans b59), INV_fill (L := L) (f' := f') (st' := []) hs D V n1 n2 (fun x x1 x2 x3 x4 x5 x6 x7 x8 x9 x10 x11 => bo x x1 x2 x7 x8 x9 x10 x11) (by rw [b1 1 (by decide), p4, u9]; rfl) (rowJ_kept d2 (bo 2 (by omega) (by decide) (by decide) (by omega) (by omega) (by decide) (by decide)) (bo 3 (by omega) (by decide) (by decide) (by omega) (by omega) (by decide) (by decide))) (rowJ_nil ((b1 8 (by decide)).trans p5) ((bo 9 (by omega) (by decide) (by decide) (by omega) (by omega) (by decide) (by decide)).trans t2) (by decide) (by decide)) (by rw [b1 dr (by omega), p6]) (by rw [b1 di (by omega), p7]) p8 hL2 (mk3_kept d8 (fun x a b => bo x (by omega) (by omega) (by omega) (by omega) (by omega) (by omega) (by omega))) ⟨_, (b1 23 (by decide)).trans p9⟩ ⟨_, b59⟩ (by rw [bl.1]; exact Nat.le_add_right _ _) (by rw [bl.1]; exact Nat.add_le_add_left (by decide) _) (by rw [bl.2]; exact Nat.add_le_add_left (by decide) _) (mB_kept m1 u7 (fun k hk => uk k (by omega))) ?_ (isS_nil u3) u5 u6 m7 (fun c hc => absurd hc List.not_mem_nil) (fun k hk => uk k (by omega))⟩
        unfold tyT at *
        rw [u1, uk 2 (by omega)]
        exact m2
    · obtain ⟨h1, p1, p2, p3, p4, p7⟩ := E1 ok
      clear E1 E2 E3
      have e1 := Law_decode_x0 (m := 1390) d1 p1
      have bo := p7
      have T : h1 = mH h1 s := mIs_of hm (fun x a b => bo x (by omega) (by omega))
      obtain ⟨s', e2, u0, u1, u3, u5, u9, u7, uk⟩ := (F h1).1 ok
      clear F
      rw [← ea, ← eb, ← ec] at e1 e2
      have hs1 : scI xs h1 := (bo 0 (by omega) (by decide)).trans hs
      exact ⟨_, _, turn_11 (kk := 1) K hr op hs e1 hs1 (T ▸ obM_mH _ _) ((congrArg _ T).trans e2) rfl ((mF_0 _).trans (by rw [u0]; rfl)) (fun y => absurd y (by decide)), INV_run (tx' := tx) (st' := st) hs D V n1 n2 (fun x x1 x2 x3 x4 x5 x6 x7 x8 x9 x10 x11 => bo x x1 x2) (by rw [p4, u9]) (rowJ_kept d2 (bo 2 (by omega) (by omega)) (bo 3 (by omega) (by omega))) (rowJ_kept d3 (bo 8 (by omega) (by omega)) (bo 9 (by omega) (by omega))) ⟨_, _, (bo dr (by omega) (by omega)).trans d5, (bo di (by omega) (by omega)).trans d5i⟩ (mk3_kept d8 (fun x a b => bo x (by omega) (by omega))) ⟨f, (bo 23 (by omega) (by omega)).trans d9⟩ ⟨w, (bo 59 (by omega) (by omega)).trans d10⟩ (by rw [p2]; exact Nat.le_add_right _ _) (by rw [p2]; exact Nat.add_le_add_left (by decide) _) (by rw [p3]; exact Nat.add_le_add_left (by decide) _) (mdJ_kept M u7 u1 u3 u5 (fun k hk => uk k (by omega))) (fun k hk => uk k (by omega))⟩
  · obtain ⟨gs, cc, x1, x2⟩ := sub_gs za0 za1 V
    have T := thr_T I
    have e2 := Model_decode_no (m := 1388) (h := thr h) za0 za1 zb0 zb1 zc0 zc1 m1.2.1 q
    have e1 := Law_decode_no (m := 1387) (o := some 59) d1 rfl d6 x1 (fun y => q ⟨((x2 zb zb0 zb1).1).mp y.1, ((x2 zc zc0 zc1).1).mp y.2⟩) (fun y => by
      obtain ⟨b', ks, a', k1, k2, k3, -⟩ := (x2 zb zb0 zb1).2 (((x2 zb zb0 zb1).1).mp y)
      exact ⟨b', ks, a', k1, k2, k3⟩) (rm_c (by omega)) (rm_s (by omega))
    rw [← ea, ← eb, ← ec] at e1 e2
    exact ⟨_, _, turn_11 (kk := 1) K hr op hs e1 (scI_thr hs) (T ▸ obM_mH _ _) ((congrArg _ T).trans e2) rfl (mF_0 _) (fun y => absurd y (by decide)), INV_thr I (kpF_I (by decide)) rfl⟩
end STS
