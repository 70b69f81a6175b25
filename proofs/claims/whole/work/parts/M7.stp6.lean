theorem veT_new {s s' : mS} {w n0 n W : Int} {c : Int → Int} (V : veT s w n0 c) (hW : w ≠ W) (W0 : 0 ≤ W) (n1 : n ≤ 160) (k13 : ∀ q : Nat, s'.2.2.1 13 q = if q = W.toNat then n else s.2.2.1 13 q) (k12 : ∀ q : Nat, s'.2.2.1 12 q = if 160 * W ≤ q ∧ (q : Int) < 160 * W + n then s.2.2.1 2 ((q : Int) - 160 * W).toNat else s.2.2.1 12 q) : veT s' w n0 c := by
  obtain ⟨v1, v2, v3, v4, v5, v6, v7⟩ := V
  refine ⟨v1, v2, ?_, v4, v5, fun p p0 p1 => ?_, v7⟩
  · rw [k13, if_neg (by omega)]; exact v3
  · rw [k12, if_neg (by omega)]; exact v6 p p0 p1
set_option maxHeartbeats 2000000 in
theorem stp_register {xs : List Int32} {t : Nat} {x4 o a b c : Int32} {h : ax_Hp} {s : mS} {K : Option Nat → Option Nat → Option Nat → Option Nat → Int32 → ax_Hp → ax_O} (I : INV xs t h s) (ht : t ≤ 511) (hr : rdI xs x4 o a b c) (op : (o &&& 15).toInt = 5) : stp xs t K x4 h := by
  obtain ⟨hm, hs, ⟨oo, oi, dr, di, tx, st, ys, D, M⟩, V, n1, n2⟩ := id I
  obtain ⟨O, d1, d2, d3, d4, d5, d6, d7, d8, ⟨f, d9⟩, ⟨w, d10⟩, d11⟩ := id D
  obtain ⟨m1, m2, m3, m4, m5, m6, m7, m8⟩ := id M
  have ob := od_b O
  obtain ⟨za, ea, za0, za1⟩ := zi_of a
  have hz := isSub_z za0 za1
  rw [← ea] at hz
  by_cases q : isSub a = true
  · have q' := hz.mp q
    obtain ⟨tl, -, ft, t1, t2, t3⟩ := rowJ_un d2
    obtain ⟨k5, k6, k7, x5, x6, x7⟩ := id d8
    obtain ⟨cnt, mode, ad, ln, cs, ve, vn, vu, v1, v2, v3, v4, v5, v6⟩ := V za.toNat (by omega)
    obtain ⟨k, hk⟩ := fstP_ex (fun j => teq (ln j) (cs j) tx.length (txV tx)) cnt
    have ei : za.toNat = a.toNatClampNeg := by rw [ea]; exact (zi_ix q'.1 za1).symm
    have rc := rm_c (show h.1 + 11 ≤ 601024 by omega)
    have rs : h.2.1 + 700 ≤ ax_SM := rm_s (by
      have z := Nat.add_le_add_right n2 700
      refine Nat.le_trans z ?_
      have y : 700 * t ≤ 700 * 511 := Nat.mul_le_mul_left _ ht
      exact Nat.le_trans (Nat.add_le_add_right (Nat.add_le_add_left y _) _) (by decide))
    obtain ⟨E1, E2, E3, E4⟩ := Desk_register_y (m := 1356) (i := za.toNat) (v := txV tx) d11 d1 d6 q ei (by omega) d7 t1 t2 x5 x6 x7 tl (txV_f t3 m7) (fun p hp => m2.2.2.2.2.1 p hp) (fun p => m2.2.2.2.2.2 p) v1 v2 v3 (fun j hj => (v6 j hj).1) k hk rc rs
    have F := fun hh => Model_register_y (m := 1378) (h := hh) (ln := fun j => (ln j : Int)) (cs := cs) (v := txV tx) q'.1 q'.2 m1 v5 v4 v2 v3 (fun j hj => by
      have z := (v6 j hj).2
      rw [Int.toNat_of_nonneg q'.1] at z
      exact z) m2 k hk
    clear x5 x6 x7 rs
    by_cases ok : spTy (txV tx) 6 0 = tx.length
    · by_cases lt : k < cnt
      · obtain ⟨h1, p1, p2, p3, p4, p5, p6, p7⟩ := E2 ok lt
        clear E1 E2 E3 E4
        have e1 := Law_register_v (m := 1390) d1 p1 ((p7 59 (by omega) (by decide) (by decide) (by decide) (by decide) (by decide)).trans d10)
        have b1 : ∀ x, x ≠ 59 → (ax_set h1 59 (.inr (2, [ax_L (Int32.ofInt (k : Int)).toInt64]))).2.2 x = h1.2.2 x := fun x z => pl_ne z
        have b59 : (ax_set h1 59 (.inr (2, [ax_L (Int32.ofInt (k : Int)).toInt64]))).2.2 59 = some (.inr (2, [ax_L (Int32.ofInt (k : Int)).toInt64])) := pl_set
        have bl : (ax_set h1 59 (.inr (2, [ax_L (Int32.ofInt (k : Int)).toInt64]))).1 = h.1 + 5 ∧ (ax_set h1 59 (.inr (2, [ax_L (Int32.ofInt (k : Int)).toInt64]))).2.1 = h.2.1 + 12 := ⟨p2, p3⟩
        generalize ax_set h1 59 (.inr (2, [ax_L (Int32.ofInt (k : Int)).toInt64])) = h2 at *
        have bo : ∀ x, x ≤ h.1 → x ≠ 1 → x ≠ 2 → x ≠ 5 → x ≠ 6 → x ≠ 7 → x ≠ 59 → h2.2.2 x = h.2.2 x := fun x z0 z1 z2 z3 z4 z5 z6 => (b1 x z6).trans (p7 x z0 z1 z2 z3 z4 z5)
        have T : h2 = mH h2 s := mIs_of hm (fun x a b => bo x (by omega) (by omega) (by omega) (by omega) (by omega) (by omega) (by omega))
        obtain ⟨s', e2, ⟨u3, u5, u7, uk⟩, u0, u1, u9, uv⟩ := (F h2).2.1 ok lt
        clear F
        rw [← ea] at e2
        have hs1 : scI xs h2 := (bo 0 (by omega) (by decide) (by decide) (by decide) (by decide) (by decide) (by decide)).trans hs
        refine ⟨_, _, turn_5 (kk := 0) K hr op hs e1 hs1 (T ▸ obM_mH _ _) ((congrArg _ T).trans e2) rfl ((mF_0 _).trans (by rw [u0]; rfl)) (fun _ => (mH_o _ _ (Or.inr (by decide))).trans b59), INV_run (tx' := []) (st' := st) hs D V n1 n2 (fun x x1 x2 x3 x4 x5 x6 x7 x8 x9 x10 x11 => bo x x1 x2 x3 x4 x5 x6 x11) (by rw [b1 1 (by decide), p4, u9]; rfl) (rowJ_nil ((b1 2 (by decide)).trans p5) ((bo 3 (by omega) (by decide) (by decide) (by decide) (by decide) (by decide) (by decide)).trans t2) (by decide) (by decide)) (rowJ_kept d3 (bo 8 (by omega) (by decide) (by decide) (by decide) (by decide) (by decide) (by decide)) (bo 9 (by omega) (by decide) (by decide) (by decide) (by decide) (by decide) (by decide))) (drJ_kept d5 (bo dr (by omega) (by omega) (by omega) (by omega) (by omega) (by omega) (by omega)) (bo di (by omega) (by omega) (by omega) (by omega) (by omega) (by omega) (by omega))) (mk3_kept p6 (fun x a b => b1 x (by omega))) ⟨f, (bo 23 (by omega) (by decide) (by decide) (by decide) (by decide) (by decide) (by decide)).trans d9⟩ ⟨_, b59⟩ (by rw [bl.1]; exact Nat.le_add_right _ _) (by rw [bl.1]; exact Nat.add_le_add_left (by decide) _) (by rw [bl.2]; exact Nat.add_le_add_left (by decide) _) ⟨mB_kept m1 u7 (fun j hj => by rcases hj with z | z | z <;> subst z; exact uk 2 (by omega); exact uv 11 (by omega); exact uv 12 (by omega)), tyT_nil u1, ?_, u5.trans m4, m5, fun j hj => by rw [uk 6 (by omega)]; exact m6 j hj, (fun c hc => absurd hc List.not_mem_nil), m8⟩ (fun j hj => by rcases hj with z | z | z | z <;> subst z; exact uk 10 (by omega); exact uv 11 (by omega); exact uv 12 (by omega); exact uv 13 (by omega))⟩
        unfold isS at *
        rw [u3, uk 4 (by omega)]
        exact m3
      · cases co : adm cnt mode (fun j => gon (md3 mode) (crd (txV tx) (cs j) 13 6 6 0 0) (crd (cs j) (txV tx) 13 6 6 0 0)) with
        | false =>
          obtain ⟨h1, p1, p2, p3, p6, p7⟩ := E3 ok lt co
          clear E1 E2 E3 E4
          have e1 := Law_register_x1 (m := 1390) d1 p1
          have bo := p7
          have T : h1 = mH h1 s := mIs_of hm (fun x a b => bo x (by omega) (by omega) (by omega) (by omega))
          obtain ⟨s', e2, ⟨u3, u5, u7, uk⟩, u0, u1, u9, uv⟩ := (F h1).2.2.1 ok lt co
          clear F
          rw [← ea] at e2
          have hs1 : scI xs h1 := (bo 0 (by omega) (by decide) (by decide) (by decide)).trans hs
          exact ⟨_, _, turn_5 (kk := 2) K hr op hs e1 hs1 (T ▸ obM_mH _ _) ((congrArg _ T).trans e2) rfl ((mF_0 _).trans (by rw [u0]; rfl)) (fun y => absurd y (by decide)), INV_run (tx' := tx) (st' := st) hs D V n1 n2 (fun x x1 x2 x3 x4 x5 x6 x7 x8 x9 x10 x11 => bo x x1 x4 x5 x6) (by rw [bo 1 (by omega) (by decide) (by decide) (by decide), u9]; exact d1) (rowJ_kept d2 (bo 2 (by omega) (by decide) (by decide) (by decide)) (bo 3 (by omega) (by decide) (by decide) (by decide))) (rowJ_kept d3 (bo 8 (by omega) (by decide) (by decide) (by decide)) (bo 9 (by omega) (by decide) (by decide) (by decide))) (drJ_kept d5 (bo dr (by omega) (by omega) (by omega) (by omega)) (bo di (by omega) (by omega) (by omega) (by omega))) p6 ⟨f, (bo 23 (by omega) (by decide) (by decide) (by decide)).trans d9⟩ ⟨w, (bo 59 (by omega) (by decide) (by decide) (by decide)).trans d10⟩ (by rw [p2]; exact Nat.le_add_right _ _) (by rw [p2]; exact Nat.add_le_add_left (by decide) _) (by rw [p3]; exact Nat.add_le_add_left (by decide) _) (mdJ_kept M u7 u1 u3 u5 (fun j hj => by rcases hj with z | z | z | z | z <;> subst z; exact uk 2 (by omega); exact uk 4 (by omega); exact uk 6 (by omega); exact uv 11 (by omega); exact uv 12 (by omega))) (fun j hj => by rcases hj with z | z | z | z <;> subst z; exact uk 10 (by omega); exact uv 11 (by omega); exact uv 12 (by omega); exact uv 13 (by omega))⟩
        | true =>
          have lt6 : cnt < 6 := by
            unfold adm at co
            rw [Bool.and_eq_true] at co
            exact of_decide_eq_true co.1
          obtain ⟨h1, sc, fe, fn, fu, p1, p2, p3, p4, p5, p6, pv, ps, p7⟩ := E4 ok lt co
          clear E1 E2 E3 E4
          have e1 := Law_register_v (m := 1390) d1 p1 ((p7 59 (by omega) (by decide) (by decide) (by decide) (by decide) (by decide) (by omega) (by omega)).trans d10)
          have b1 : ∀ x, x ≠ 59 → (ax_set h1 59 (.inr (2, [ax_L (Int32.ofInt (cnt : Int)).toInt64]))).2.2 x = h1.2.2 x := fun x z => pl_ne z
          have b59 : (ax_set h1 59 (.inr (2, [ax_L (Int32.ofInt (cnt : Int)).toInt64]))).2.2 59 = some (.inr (2, [ax_L (Int32.ofInt (cnt : Int)).toInt64])) := pl_set
          have bl : (ax_set h1 59 (.inr (2, [ax_L (Int32.ofInt (cnt : Int)).toInt64]))).1 = h1.1 ∧ (ax_set h1 59 (.inr (2, [ax_L (Int32.ofInt (cnt : Int)).toInt64]))).2.1 = h1.2.1 := ⟨rfl, rfl⟩
          generalize ax_set h1 59 (.inr (2, [ax_L (Int32.ofInt (cnt : Int)).toInt64])) = h2 at *
          have bo : ∀ x, x ≤ h.1 → x ≠ 1 → x ≠ 2 → x ≠ 5 → x ≠ 6 → x ≠ 7 → x ≠ 15 + 2 * za.toNat → x ≠ 16 + 2 * za.toNat → x ≠ 59 → h2.2.2 x = h.2.2 x := fun x z0 z1 z2 z3 z4 z5 z6 z7 z8 => (b1 x z8).trans (p7 x z0 z1 z2 z3 z4 z5 z6 z7)
          have T : h2 = mH h2 s := mIs_of hm (fun x a b => bo x (by omega) (by omega) (by omega) (by omega) (by omega) (by omega) (by omega) (by omega) (by omega))
          obtain ⟨s', e2, ⟨u3, u5, u7, uk⟩, u0, u1, u9, y11, y13, y12⟩ := (F h2).2.2.2 ok lt co
          clear F
          rw [← ea] at e2
          have hs1 : scI xs h2 := (bo 0 (by omega) (by decide) (by decide) (by decide) (by decide) (by decide) (by omega) (by omega) (by decide)).trans hs
          have q3 : h2.1 ≤ 59 + 11 * (t + 1) := by rw [bl.1]; exact roA (by rw [p2]; exact Nat.le_refl _) n1
          have q4 : h2.2.1 ≤ 9731 + 700 * (t + 1) := by
            rw [bl.2]
            refine roB ?_ n2
            rw [p3]
            exact Nat.add_le_add_left (by omega) _
          refine ⟨_, _, turn_5 (kk := 0) K hr op hs e1 hs1 (T ▸ obM_mH _ _) ((congrArg _ T).trans e2) rfl ((mF_0 _).trans (by rw [u0]; rfl)) (fun _ => (mH_o _ _ (Or.inr (by decide))).trans b59), INV_mk (tx := []) (st := st) (ys := ys) hs1 ⟨O, by rw [b1 1 (by decide), p4, u9]; rfl, rowJ_nil ((b1 2 (by decide)).trans p5) ((bo 3 (by omega) (by decide) (by decide) (by decide) (by decide) (by decide) (by omega) (by omega) (by decide)).trans t2) (by decide) (by decide), rowJ_kept d3 (bo 8 (by omega) (by decide) (by decide) (by decide) (by decide) (by decide) (by omega) (by omega) (by decide)) (bo 9 (by omega) (by decide) (by decide) (by decide) (by decide) (by decide) (by omega) (by omega) (by decide)), rowJ_kept d4 (bo oo (by omega) (by omega) (by omega) (by omega) (by omega) (by omega) (by omega) (by omega) (by omega)) (bo oi (by omega) (by omega) (by omega) (by omega) (by omega) (by omega) (by omega) (by omega) (by omega)), drJ_kept d5 (bo dr (by omega) (by omega) (by omega) (by omega) (by omega) (by omega) (by omega) (by omega) (by omega)) (bo di (by omega) (by omega) (by omega) (by omega) (by omega) (by omega) (by omega) (by omega) (by omega)), (bo 14 (by omega) (by decide) (by decide) (by decide) (by decide) (by decide) (by omega) (by omega) (by decide)).trans d6, (bo 4 (by omega) (by decide) (by decide) (by decide) (by decide) (by decide) (by omega) (by omega) (by decide)).trans d7, mk3_kept p6 (fun x a b => b1 x (by omega)), ⟨f, (bo 23 (by omega) (by decide) (by decide) (by decide) (by decide) (by decide) (by omega) (by omega) (by decide)).trans d9⟩, ⟨_, b59⟩, by omega⟩ ⟨⟨u7, fun i => ?_, fun i => ?_, fun i => by rw [uk 2 (by omega)]; exact m1.2.2.2 i⟩, tyT_nil u1, ?_, u5.trans m4, m5, fun j hj => by rw [uk 6 (by omega)]; exact m6 j hj, (fun c hc => absurd hc List.not_mem_nil), m8⟩ (fun i hi => ?_) q3 q4⟩
          · rw [y11]
            by_cases z : i = za.toNat
            · rw [if_pos z]; omega
            · rw [if_neg z]; exact m1.2.1 i
          · rw [y12]
            split
            · exact m1.2.2.2 _
            · exact m1.2.2.1 i
          · unfold isS at *
            rw [u3, uk 4 (by omega)]
            exact m3
          · by_cases z : i = za.toNat
            · subst z
              refine ⟨cnt + 1, mode, fun v => if v = cnt then sc else ad v, fun j => if j = cnt then tx.length else ln j, fun j => if j = cnt then txV tx else cs j, fun j => if j = cnt then fe else ve j, fun j => if j = cnt then fn else vn j, fun j => if j = cnt then fu else vu j, sbX_kept ps (b1 _ (by omega)) (b1 _ (by omega)), v2, v3, by rw [uk 10 (by omega)]; exact v4, by rw [y11, if_pos rfl]; omega, fun j hj => ?_⟩
              by_cases y : j = cnt
              · subst y
                simp only [if_true]
                refine ⟨verX_kept pv (by rw [bl.1]; exact Nat.le_refl _) (fun x a b => b1 x (by omega)), ?_⟩
                refine ⟨by omega, by omega, ?_, by omega, by omega, fun p p0 p1 => ?_, m2.2.2.2.2.1, m2.2.2.2.2.2, ok⟩
                · rw [y13, if_pos (by omega)]
                · rw [y12, if_pos (by omega), ← m2.2.2.2.1 p p0 p1]
                  exact congrArg _ (by omega)
              · simp only [if_neg y]
                obtain ⟨w1, w2⟩ := v6 j (by omega)
                exact ⟨verX_kept w1 (by rw [bl.1, p2]; exact Nat.le_add_right _ _) (fun x a b => bo x b (by omega) (by omega) (by omega) (by omega) (by omega) (by omega) (by omega) (by omega)), veT_new w2 (by omega) (by omega) (by omega) y13 y12⟩
            · obtain ⟨cnt', mode', ad', ln', cs', ve', vn', vu', w1, w2, w3, w4, w5, w6⟩ := V i hi
              have c6 := w1.2.2
              refine ⟨cnt', mode', ad', ln', cs', ve', vn', vu', sbX_kept w1 (bo _ (by omega) (by omega) (by omega) (by omega) (by omega) (by omega) (by omega) (by omega) (by omega)) (bo _ (by omega) (by omega) (by omega) (by omega) (by omega) (by omega) (by omega) (by omega) (by omega)), w2, w3, by rw [uk 10 (by omega)]; exact w4, by rw [y11, if_neg z]; exact w5, fun j hj => ?_⟩
              obtain ⟨g1, g2⟩ := w6 j hj
              exact ⟨verX_kept g1 (by rw [bl.1, p2]; exact Nat.le_add_right _ _) (fun x a b => bo x b (by omega) (by omega) (by omega) (by omega) (by omega) (by omega) (by omega) (by omega)), veT_new g2 (by omega) (by omega) (by omega) y13 y12⟩
    · obtain ⟨h1, p1, p2, p3, p4, p6, p7⟩ := E1 ok
      clear E1 E2 E3 E4
      have e1 := Law_register_x0 (m := 1390) d1 p1
      have bo := p7
      have T : h1 = mH h1 s := mIs_of hm (fun x a b => bo x (by omega) (by omega) (by omega) (by omega) (by omega))
      obtain ⟨s', e2, ⟨u3, u5, u7, uk⟩, u0, u1, u9, uv⟩ := (F h1).1 ok
      clear F
      rw [← ea] at e2
      have hs1 : scI xs h1 := (bo 0 (by omega) (by decide) (by decide) (by decide) (by decide)).trans hs
      exact ⟨_, _, turn_5 (kk := 1) K hr op hs e1 hs1 (T ▸ obM_mH _ _) ((congrArg _ T).trans e2) rfl ((mF_0 _).trans (by rw [u0]; rfl)) (fun y => absurd y (by decide)), INV_run (tx' := tx) (st' := st) hs D V n1 n2 (fun x x1 x2 x3 x4 x5 x6 x7 x8 x9 x10 x11 => bo x x1 x2 x4 x5 x6) (by rw [p4, u9]) (rowJ_kept d2 (bo 2 (by omega) (by decide) (by decide) (by decide) (by decide)) (bo 3 (by omega) (by decide) (by decide) (by decide) (by decide))) (rowJ_kept d3 (bo 8 (by omega) (by decide) (by decide) (by decide) (by decide)) (bo 9 (by omega) (by decide) (by decide) (by decide) (by decide))) (drJ_kept d5 (bo dr (by omega) (by omega) (by omega) (by omega) (by omega)) (bo di (by omega) (by omega) (by omega) (by omega) (by omega))) p6 ⟨f, (bo 23 (by omega) (by decide) (by decide) (by decide) (by decide)).trans d9⟩ ⟨w, (bo 59 (by omega) (by decide) (by decide) (by decide) (by decide)).trans d10⟩ (by rw [p2]; exact Nat.le_add_right _ _) (by rw [p2]; exact Nat.add_le_add_left (by decide) _) (by rw [p3]; exact Nat.add_le_add_left (by decide) _) (mdJ_kept M u7 u1 u3 u5 (fun j hj => by rcases hj with z | z | z | z | z <;> subst z; exact uk 2 (by omega); exact uk 4 (by omega); exact uk 6 (by omega); exact uv 11 (by omega); exact uv 12 (by omega))) (fun j hj => by rcases hj with z | z | z | z <;> subst z; exact uk 10 (by omega); exact uv 11 (by omega); exact uv 12 (by omega); exact uv 13 (by omega))⟩
  · have T := thr_T I
    have e0 : ax_F 1390 19 [ax_A (some 1), ax_I a] h = some (.inr (0, h.1 + 1), thr h) := by
      rw [Desk_register_F]
      unfold Desk_register_b
      rw [pl_on d1, pl_cr_x (Desk_subjectAt_no q (rm_c (by omega)) (rm_s (by omega)))]
    have e1 := Law_register_x0 (m := 1390) d1 e0
    have e2 := Model_register_ns (m := 1389) (h := thr h) (s := s) za0 za1 (fun z => q (hz.mpr z))
    rw [← ea] at e2
    exact ⟨_, _, turn_5 (kk := 1) K hr op hs e1 (scI_thr hs) (T ▸ obM_mH _ _) ((congrArg _ T).trans e2) rfl (mF_0 _) (fun y => absurd y (by decide)), INV_thr I (kpF_I (by decide)) rfl⟩
