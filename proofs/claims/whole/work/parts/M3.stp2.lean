/-- what a subject's number says -/
theorem sub_gs {h : ax_Hp} {s : mS} {z : Int} (z0 : -2147483648 ≤ z) (z1 : z < 2147483648) (V : vrA h s) : ∃ (gs : List ax_T) (c : Int32), (isSub (Int32.ofInt z) = true → h.2.2 (15 + 2 * (Int32.ofInt z).toNatClampNeg) = some (.inl (6, gs)) ∧ gs[1]? = some (ax_I c)) ∧ ∀ w : Int, -2147483648 ≤ w → w < 2147483648 → (vOkD (Int32.ofInt z) (Int32.ofInt w) c ↔ vOk z w (s.2.2.1 11)) ∧ (vOk z w (s.2.2.1 11) → ∃ (b : Nat) (ks : List ax_T) (a : Nat), gs[0]? = some (ax_A (some b)) ∧ h.2.2 b = some (.inr (6, ks)) ∧ ks[(Int32.ofInt w).toNatClampNeg]? = some (ax_A (some a)) ∧ ∃ (l : Nat) (c' : Int → Int) (fe fn fu : Nat → Int), verX h a l c' fe fn fu ∧ veT s (6 * z + w) l c') := by
  have iz := isSub_z z0 z1
  by_cases q : 0 ≤ z ∧ z ≤ 3
  · obtain ⟨cnt, mode, ad, ln, cs, ve, vn, vu, v1, v2, v3, v4, v5, v6⟩ := V z.toNat (by omega)
    have ei : (Int32.ofInt z).toNatClampNeg = z.toNat := zi_ix q.1 z1
    have c6 := v1.2.2
    refine ⟨[ax_A (some (16 + 2 * z.toNat)), ax_I (Int32.ofInt cnt), ax_I (Int32.ofInt mode)], Int32.ofInt cnt, fun _ => ⟨by rw [ei]; exact v1.1, rfl⟩, fun w w0 w1 => ⟨?_, fun hv => ?_⟩⟩
    · unfold vOkD vOk
      rw [iz, v5, zi_0, zi_lt w0 w1 (by omega) (by omega), zi_le (by omega) (by omega) w0 w1]
      omega
    · obtain ⟨-, -, u3, u4⟩ := hv
      rw [v5] at u4
      have ew : (Int32.ofInt w).toNatClampNeg = w.toNat := zi_ix u3 w1
      obtain ⟨x1, x2⟩ := v6 w.toNat (by omega)
      refine ⟨16 + 2 * z.toNat, arS cnt ad, ad w.toNat, rfl, v1.2.1, ?_, ln w.toNat, cs w.toNat, ve w.toNat, vn w.toNat, vu w.toNat, x1, ?_⟩
      · rw [ew, arS_at (by omega), if_pos (by omega)]
      · rw [show 6 * ((z.toNat : Nat) : Int) + ((w.toNat : Nat) : Int) = 6 * z + w by omega] at x2
        exact x2
  · refine ⟨[], 0, fun y => absurd (iz.mp y) q, fun w w0 w1 => ⟨⟨fun y => absurd (iz.mp y.1) q, fun y => absurd ⟨y.1, y.2.1⟩ q⟩, fun y => absurd ⟨y.1, y.2.1⟩ q⟩⟩
/-- a version is found -/
theorem ver_at {m : Nat} {h : ax_Hp} {s : mS} {z w : Int} {o dr : Nat} {p : Int32} (z1 : z < 2147483648) (w1 : w < 2147483648) (d1 : h.2.2 1 = some (dkO o dr p)) (d6 : h.2.2 14 = some (.inr (5, sjs))) (V : vrA h s) (hv : vOk z w (s.2.2.1 11)) : ∃ (sc l : Nat) (c : Int → Int) (fe fn fu : Nat → Int), ax_F (m + 2) 94 [ax_A (some 1), ax_I (Int32.ofInt z), ax_I (Int32.ofInt w)] h = some (.inl (some (ax_A (some sc))), h) ∧ verX h sc l c fe fn fu ∧ veT s (6 * z + w) l c := by
  obtain ⟨u1, u2, u3, u4⟩ := id hv
  obtain ⟨gs, c, g1, g2⟩ := sub_gs (by omega) z1 V
  obtain ⟨g3, g4⟩ := g2 w (by omega) w1
  obtain ⟨b, ks, a, k1, k2, k3, l, c', fe, fn, fu, k4, k5⟩ := g4 hv
  have vd := g3.mpr hv
  obtain ⟨x1, x2⟩ := g1 vd.1
  exact ⟨a, l, c', fe, fn, fu, Desk_versionAt_y d1 rfl d6 x1 x2 k1 k2 vd k3, k4, k5⟩
/-- nothing that is shown has changed -/
theorem INV_no {xs : List Int32} {t : Nat} {h h1 : ax_Hp} {s s' : mS} (I : INV xs t h s) (e : ∀ a, a ≤ h.1 → a ≠ 59 → h1.2.2 a = h.2.2 a) (e59 : ∃ w, h1.2.2 59 = some (.inr (2, [w]))) (l : h.1 ≤ h1.1) (l1 : h1.1 ≤ h.1 + 11) (l2 : h1.2.1 ≤ h.2.1 + 700) (k : kpF s s') (h7 : 0 ≤ s'.1 7 ∧ s'.1 7 ≤ 1000000) : INV xs (t + 1) (mH h1 s') s' := by
  obtain ⟨hm, hs, ⟨oo, oi, dr, di, tx, st, ys, D, M⟩, V, n1, n2⟩ := I
  have q3 : h1.1 ≤ 59 + 11 * (t + 1) := by clear D M V hm hs e k; omega
  have q4 : h1.2.1 ≤ 9731 + 700 * (t + 1) := by
    have z := Nat.le_trans l2 (Nat.add_le_add_right n2 700)
    rw [Nat.mul_add, Nat.mul_one, ← Nat.add_assoc]
    exact z
  have hl : 59 ≤ h.1 := D.2.2.2.2.2.2.2.2.2.2.2
  obtain ⟨O, d1, d2, d3, d4, d5, d6, d7, d8, ⟨f, d9⟩, -, d11⟩ := id D
  have ob := od_b O
  have hs1 : scI xs h1 := (e 0 (by omega) (by omega)).trans hs
  refine INV_mk hs1 ⟨O, ?_, rowJ_kept d2 (e 2 (by omega) (by omega)) (e 3 (by omega) (by omega)), rowJ_kept d3 (e 8 (by omega) (by omega)) (e 9 (by omega) (by omega)), rowJ_kept d4 (e _ (by omega) (by omega)) (e _ (by omega) (by omega)), drJ_kept d5 (e _ (by omega) (by omega)) (e _ (by omega) (by omega)), (e 14 (by omega) (by omega)).trans d6, (e 4 (by omega) (by omega)).trans d7, mk3_kept d8 (fun q a b => e q (by omega) (by omega)), ⟨f, (e 23 (by omega) (by omega)).trans d9⟩, e59, by omega⟩ (mdJ_kept M h7 (k.1 1 (by omega)) (k.1 3 (by omega)) (k.1 5 (by omega)) (fun j hj => k.2 j (by omega))) (vrA_kept V (fun q a b => e q (by omega) (by omega)) l (fun q a b => e q b (by omega)) (fun j hj => k.2 j (by omega))) q3 q4
  rw [e 1 (by omega) (by omega), k.1 9 (by omega)]
  exact d1
/-- the class throws and has changed nothing -/
theorem INV_thr {xs : List Int32} {t : Nat} {h : ax_Hp} {s s' : mS} (I : INV xs t h s) (k : kpF s s') (h7 : s'.1 7 = s.1 7) : INV xs (t + 1) (mH (thr h) s') s' := by
  obtain ⟨oo, oi, dr, di, tx, st, ys, D, M⟩ := I.2.2.1
  obtain ⟨w, d10⟩ := D.2.2.2.2.2.2.2.2.2.2.1
  have hl : 59 ≤ h.1 := D.2.2.2.2.2.2.2.2.2.2.2
  exact INV_no I (fun a ha _ => thr_at ha) ⟨w, (thr_at (by omega)).trans d10⟩ (by show h.1 ≤ h.1 + 1; omega) (by show h.1 + 1 ≤ _; omega) (by show h.2.1 + 6 ≤ _; omega) k (by rw [h7]; exact M.1.1)
theorem thr_T {xs : List Int32} {t : Nat} {h : ax_Hp} {s : mS} (I : INV xs t h s) : thr h = mH (thr h) s := by
  obtain ⟨oo, oi, dr, di, tx, st, ys, D, M⟩ := I.2.2.1
  have hl : 59 ≤ h.1 := D.2.2.2.2.2.2.2.2.2.2.2
  exact mIs_of I.1 (fun q a b => thr_at (by omega))
theorem set59_T {xs : List Int32} {t : Nat} {h : ax_Hp} {s : mS} {w : ax_T} (I : INV xs t h s) : ax_set h 59 (.inr (2, [w])) = mH (ax_set h 59 (.inr (2, [w]))) s := mIs_of I.1 (fun q a b => pl_ne (by omega))
theorem INV_59 {xs : List Int32} {t : Nat} {h : ax_Hp} {s s' : mS} {w : ax_T} (I : INV xs t h s) (k : kpF s s') (h7 : 0 ≤ s'.1 7 ∧ s'.1 7 ≤ 1000000) : INV xs (t + 1) (mH (ax_set h 59 (.inr (2, [w]))) s') s' := INV_no I (fun a ha z => pl_ne z) ⟨w, pl_set⟩ (Nat.le_refl _) (Nat.le_add_right _ _) (Nat.le_add_right _ _) k h7
section STQ
variable {xs : List Int32} {t : Nat} {x4 o a b c : Int32} {h : ax_Hp} {s : mS} {K : Option Nat → Option Nat → Option Nat → Option Nat → Int32 → ax_Hp → ax_O}
theorem stp_versions (I : INV xs t h s) (ht : t ≤ 511) (hr : rdI xs x4 o a b c) (op : (o &&& 15).toInt = 6) : stp xs t K x4 h := by
  obtain ⟨hm, hs, ⟨oo, oi, dr, di, tx, st, ys, D, M⟩, V, n1, n2⟩ := id I
  obtain ⟨O, d1, -, -, -, -, d6, -, -, -, ⟨w, d10⟩, d11⟩ := id D
  obtain ⟨za, ea, za0, za1⟩ := zi_of a
  have hz := isSub_z za0 za1
  rw [← ea] at hz
  by_cases q : isSub a = true
  · have q' := hz.mp q
    obtain ⟨cnt, mode, ad, ln, cs, ve, vn, vu, v1, v2, v3, v4, v5, v6⟩ := V za.toNat (by omega)
    have ei : a.toNatClampNeg = za.toNat := by rw [ea]; exact zi_ix q'.1 za1
    have e1 := Law_versions_e (m := 1388) (w := w) d1 rfl d6 q (by rw [ei]; exact v1.1) rfl d10
    have T := set59_T (w := ax_L (Int32.ofInt (cnt : Int)).toInt64) I
    have e2 := Model_versions_y (m := 1389) (h := ax_set h 59 (.inr (2, [ax_L (Int32.ofInt (cnt : Int)).toInt64]))) (s := s) q'.1 q'.2
    rw [← ea, v5] at e2
    have k1 : scI xs (ax_set h 59 (.inr (2, [ax_L (Int32.ofInt (cnt : Int)).toInt64]))) := (pl_ne (show 0 ≠ 59 by decide)).trans hs
    exact ⟨_, _, turn_6 (kk := 0) K hr op hs e1 k1 (T ▸ obM_mH _ _) ((congrArg _ T).trans e2) rfl (mF_0 _) (fun _ => (mH_o _ _ (Or.inr (by decide))).trans pl_set), INV_59 I (kpF_I (by decide)) M.1.1⟩
  · have T := thr_T I
    have e2 := Model_versions_n (m := 1389) (h := thr h) (s := s) za0 za1 (fun y => q (hz.mpr y))
    rw [← ea] at e2
    exact ⟨_, _, turn_6 (kk := 1) K hr op hs (Law_versions_no (m := 1388) d1 q (rm_c (by omega)) (rm_s (by omega))) (scI_thr hs) (T ▸ obM_mH _ _) ((congrArg _ T).trans e2) rfl (mF_0 _) (fun y => absurd y (by decide)), INV_thr I (kpF_I (by decide)) rfl⟩
theorem stp_out (I : INV xs t h s) (ht : t ≤ 511) (hr : rdI xs x4 o a b c) (op : (o &&& 15).toInt = 13) : stp xs t K x4 h := by
  obtain ⟨hm, hs, ⟨oo, oi, dr, di, tx, st, ys, D, M⟩, V, n1, n2⟩ := id I
  obtain ⟨O, d1, -, -, d4, -, -, -, -, -, ⟨w, d10⟩, d11⟩ := id D
  obtain ⟨m1, -, -, m4, m5, m6, -⟩ := id M
  obtain ⟨za, ea, za0, za1⟩ := zi_of a
  by_cases q : 0 ≤ za ∧ za < ys.length
  · have ei : a.toNatClampNeg = za.toNat := by rw [ea]; exact zi_ix q.1 za1
    have hv : ys[a.toNatClampNeg]? = some (ys.getD za.toNat 0) := by rw [ei, List.getD_eq_getElem?_getD, List.getElem?_eq_getElem (by omega)]; rfl
    have e1 := Law_out_e (m := 1388) (w := w) d1 rfl d4.1 (by omega) (show ¬ a < 0 from by rw [ea]; exact zi_n0 q.1 za1) hv d10
    have T := set59_T (w := ax_L (ys.getD za.toNat 0).toInt64) I
    have e2 := Model_out_y (m := 1389) (h := ax_set h 59 (.inr (2, [ax_L (ys.getD za.toNat 0).toInt64]))) (s := s) q.1 (by omega) (by omega)
    rw [← ea, m6 za.toNat (by omega)] at e2
    have k1 : scI xs (ax_set h 59 (.inr (2, [ax_L (ys.getD za.toNat 0).toInt64]))) := (pl_ne (show 0 ≠ 59 by decide)).trans hs
    exact ⟨_, _, turn_13 (kk := 0) K hr op hs e1 k1 (T ▸ obM_mH _ _) ((congrArg _ T).trans e2) rfl (mF_0 _) (fun _ => (mH_o _ _ (Or.inr (by decide))).trans pl_set), INV_59 I (kpF_I (by decide)) m1.1⟩
  · have T := thr_T I
    have e2 := Model_out_n (m := 1389) (h := thr h) (s := s) za0 za1 (by omega) (by omega) (by rw [m4]; exact q)
    rw [← ea] at e2
    have hn : a < 0 ∨ ys.length ≤ a.toNatClampNeg := by
      by_cases y : 0 ≤ za
      · right; rw [ea, zi_ix y za1]; omega
      · left; rw [ea, zi_0, zi_lt za0 za1 (by omega) (by omega)]; omega
    exact ⟨_, _, turn_13 (kk := 1) K hr op hs (Law_out_no (m := 1388) d1 rfl d4.1 (by omega) hn (rm_c (by omega)) (rm_s (by omega))) (scI_thr hs) (T ▸ obM_mH _ _) ((congrArg _ T).trans e2) rfl (mF_0 _) (fun y => absurd y (by decide)), INV_thr I (kpF_I (by decide)) rfl⟩
theorem stp_mode (I : INV xs t h s) (ht : t ≤ 511) (hr : rdI xs x4 o a b c) (op : (o &&& 15).toInt = 4) : stp xs t K x4 h := by
  obtain ⟨hm, hs, ⟨oo, oi, dr, di, tx, st, ys, D, M⟩, V, n1, n2⟩ := id I
  obtain ⟨O, d1, d2, d3, d4, d5, d6, d7, d8, ⟨f, d9⟩, ⟨w, d10⟩, d11⟩ := id D
  have ob := od_b O
  obtain ⟨za, ea, za0, za1⟩ := zi_of a
  obtain ⟨zb, eb, zb0, zb1⟩ := zi_of b
  have hz := mdOk_z za0 za1 zb0 zb1
  rw [← ea, ← eb] at hz
  by_cases q : mdOk a b = true
  · have q' := hz.mp q
    obtain ⟨cnt, mode, ad, ln, cs, ve, vn, vu, v1, v2, v3, v4, v5, v6⟩ := V za.toNat (by omega)
    have ei : a.toNatClampNeg = za.toNat := by rw [ea]; exact zi_ix q'.1 za1
    have e1 := Law_mode_e (m := 1388) d1 rfl d6 q (by rw [ei]; exact v1.1) rfl
    rw [ei] at e1
    have bo : ∀ x, x ≠ 15 + 2 * za.toNat → (ax_set h (15 + 2 * za.toNat) (.inl (6, [ax_A (some (16 + 2 * za.toNat)), ax_I (Int32.ofInt cnt), ax_I (Int32.ofInt mode)].set 2 (ax_I b)))).2.2 x = h.2.2 x := fun x z => pl_ne z
    have bs : (ax_set h (15 + 2 * za.toNat) (.inl (6, [ax_A (some (16 + 2 * za.toNat)), ax_I (Int32.ofInt cnt), ax_I (Int32.ofInt mode)].set 2 (ax_I b)))).2.2 (15 + 2 * za.toNat) = some (.inl (6, [ax_A (some (16 + 2 * za.toNat)), ax_I (Int32.ofInt cnt), ax_I (Int32.ofInt zb)])) := by rw [pl_set, eb]; rfl
    have b1 : (ax_set h (15 + 2 * za.toNat) (.inl (6, [ax_A (some (16 + 2 * za.toNat)), ax_I (Int32.ofInt cnt), ax_I (Int32.ofInt mode)].set 2 (ax_I b)))).1 = h.1 ∧ (ax_set h (15 + 2 * za.toNat) (.inl (6, [ax_A (some (16 + 2 * za.toNat)), ax_I (Int32.ofInt cnt), ax_I (Int32.ofInt mode)].set 2 (ax_I b)))).2.1 = h.2.1 := ⟨rfl, rfl⟩
    generalize ax_set h (15 + 2 * za.toNat) (.inl (6, [ax_A (some (16 + 2 * za.toNat)), ax_I (Int32.ofInt cnt), ax_I (Int32.ofInt mode)].set 2 (ax_I b))) = h1 at *
    have T : h1 = mH h1 s := mIs_of hm (fun x a b => bo x (by omega))
    have e2 := Model_mode_y (m := 1389) (h := h1) (s := s) q'.1 q'.2.1 q'.2.2.1 q'.2.2.2
    rw [← ea, ← eb] at e2
    have hs1 : scI xs h1 := (bo 0 (by omega)).trans hs
    have ka : ∀ j, j ≠ 10 → (mU (mI s 0 0) 10 za zb).2.2.1 j = s.2.2.1 j := fun j hj => by rw [mU_ne _ _ _ _ _ hj]; rfl
    refine ⟨_, _, turn_4 (kk := 0) K hr op hs e1 hs1 (T ▸ obM_mH _ _) ((congrArg _ T).trans e2) rfl (mF_0 _), INV_mk hs1 ⟨O, (bo 1 (by omega)).trans d1, rowJ_kept d2 (bo 2 (by omega)) (bo 3 (by omega)), rowJ_kept d3 (bo 8 (by omega)) (bo 9 (by omega)), rowJ_kept d4 (bo _ (by omega)) (bo _ (by omega)), drJ_kept d5 (bo _ (by omega)) (bo _ (by omega)), (bo 14 (by omega)).trans d6, (bo 4 (by omega)).trans d7, mk3_kept d8 (fun x a b => bo x (by omega)), ⟨f, (bo 23 (by omega)).trans d9⟩, ⟨w, (bo 59 (by omega)).trans d10⟩, by rw [b1.1]; exact d11⟩ (mdJ_kept M M.1.1 rfl rfl rfl (fun j hj => ka j (by omega))) (fun i hi => ?_) (by rw [b1.1]; omega) (by rw [b1.2]; omega)⟩
    by_cases y : i = za.toNat
    · subst y
      refine ⟨cnt, zb, ad, ln, cs, ve, vn, vu, ⟨bs, (bo _ (by omega)).trans v1.2.1, v1.2.2⟩, q'.2.2.1, q'.2.2.2, ?_, by rw [ka 11 (by decide)]; exact v5, fun j hj => ?_⟩
      · rw [mU_3, if_pos ⟨rfl, rfl⟩]
      · obtain ⟨w1, w2⟩ := v6 j hj
        exact ⟨verX_kept w1 (by rw [b1.1]; exact Nat.le_refl _) (fun x a b => bo x (by omega)), veT_kept w2 (ka 12 (by decide)) (ka 13 (by decide))⟩
    · obtain ⟨cnt', mode', ad', ln', cs', ve', vn', vu', u1, u2, u3, u4, u5, u6⟩ := V i hi
      refine ⟨cnt', mode', ad', ln', cs', ve', vn', vu', sbX_kept u1 (bo _ (by omega)) (bo _ (by omega)), u2, u3, ?_, by rw [ka 11 (by decide)]; exact u5, fun j hj => ?_⟩
      · rw [mU_3, if_neg (fun z => y z.2)]; exact u4
      · obtain ⟨w1, w2⟩ := u6 j hj
        exact ⟨verX_kept w1 (by rw [b1.1]; exact Nat.le_refl _) (fun x a b => bo x (by omega)), veT_kept w2 (ka 12 (by decide)) (ka 13 (by decide))⟩
  · have T := thr_T I
    have e2 := Model_mode_n (m := 1389) (h := thr h) (s := s) za0 za1 zb0 zb1 (fun z => q (hz.mpr z))
    rw [← ea, ← eb] at e2
    exact ⟨_, _, turn_4 (kk := 1) K hr op hs (Law_mode_no (m := 1388) d1 rfl d6 q (rm_c (by omega)) (rm_s (by omega))) (scI_thr hs) (T ▸ obM_mH _ _) ((congrArg _ T).trans e2) rfl (mF_0 _), INV_thr I (kpF_I (by decide)) rfl⟩
end STQ
