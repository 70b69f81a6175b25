theorem arS_set {cnt a : Nat} {ad : Nat → Nat} (h : cnt < 6) : (arS cnt ad).set cnt (ax_A (some a)) = arS (cnt + 1) (fun v => if v = cnt then a else ad v) := by
  rcases (show cnt = 0 ∨ cnt = 1 ∨ cnt = 2 ∨ cnt = 3 ∨ cnt = 4 ∨ cnt = 5 by omega) with rfl | rfl | rfl | rfl | rfl | rfl <;> rfl
def sbO (i cnt : Nat) (mode : Int) : ax_Ob := .inl (6, [ax_A (some (16 + 2 * i)), ax_I (Int32.ofInt cnt), ax_I (Int32.ofInt mode)])
theorem Sb_add {m i cnt a : Nat} {H : ax_Hp} {mode : Int} {ad : Nat → Nat} {fs : List ax_T} (S : sbX H i cnt mode ad) (lt : cnt < 6) (ha : H.2.2 a = some (.inl (3, fs))) : ax_F (m + 1) 88 [ax_A (some (15 + 2 * i)), ax_A (some a)] H = some (.inl (some (ax_I (Int32.ofInt cnt))), ax_set (ax_set H (16 + 2 * i) (.inr (6, arS (cnt + 1) (fun v => if v = cnt then a else ad v)))) (15 + 2 * i) (sbO i (cnt + 1) mode)) := by
  have s1 := S.1
  have e1 : ax_sa H (some (16 + 2 * i)) 6 3 (Int32.ofInt cnt) (some a) = some (ax_set H (16 + 2 * i) (.inr (6, arS (cnt + 1) (fun v => if v = cnt then a else ad v)))) := by
    unfold ax_sa
    show (ax_obj H (some a) 3).bind (fun _ => ax_st H (some (16 + 2 * i)) 6 (Int32.ofInt cnt) (ax_A (some a))) = _
    rw [pl_obj ha, Option.bind_some]
    refine (pl_st (n := cnt) S.2.1 (by omega) (by rw [arS_len]; omega)).trans ?_
    rw [arS_set lt]
  have s2 : (ax_set H (16 + 2 * i) (.inr (6, arS (cnt + 1) (fun v => if v = cnt then a else ad v)))).2.2 (15 + 2 * i) = some (.inl (6, [ax_A (some (16 + 2 * i)), ax_I (Int32.ofInt cnt), ax_I (Int32.ofInt mode)])) := (pl_ne (by omega)).trans s1
  rw [Subject_add_F]
  unfold Subject_add_b
  rw [pl_gi s1 (v := Int32.ofInt cnt) rfl, Option.bind_some, if_pos (show Int32.ofInt cnt < 6 from by rw [show (6 : Int32) = Int32.ofInt 6 from rfl, zi_lt (by omega) (by omega) (by omega) (by omega)]; omega), pl_gr s1 (v := some (16 + 2 * i)) rfl, Option.bind_some, Option.bind_some, e1, Option.bind_some, pl_gi s2 (v := Int32.ofInt cnt) rfl, Option.bind_some, show (1 : Int32) = Int32.ofInt 1 from rfl, zi_add, show (cnt : Int) + 1 = ((cnt + 1 : Nat) : Int) by omega]
  have e2 : ax_pf (ax_set H (16 + 2 * i) (.inr (6, arS (cnt + 1) (fun v => if v = cnt then a else ad v)))) (some (15 + 2 * i)) 6 1 (ax_I (Int32.ofInt ((cnt + 1 : Nat) : Int))) = some (ax_set (ax_set H (16 + 2 * i) (.inr (6, arS (cnt + 1) (fun v => if v = cnt then a else ad v)))) (15 + 2 * i) (sbO i (cnt + 1) mode)) := pl_pf s2 (Nat.le_of_ble_eq_true rfl)
  rw [e2, Option.bind_some, pl_gi (show (ax_set (ax_set H (16 + 2 * i) (.inr (6, arS (cnt + 1) (fun v => if v = cnt then a else ad v)))) (15 + 2 * i) (sbO i (cnt + 1) mode)).2.2 (15 + 2 * i) = some (sbO i (cnt + 1) mode) from pl_set) (v := Int32.ofInt ((cnt + 1 : Nat) : Int)) rfl, Option.bind_some, zi_sub, show ((cnt + 1 : Nat) : Int) - 1 = cnt by omega]
  rfl
/-- what the class does before it reads the candidate -/
theorem Desk_register_pre {m o dr : Nat} {n z p : Int32} {h : ax_Hp} (hd : h.2.2 1 = some (dkO o dr p)) (hj : h.2.2 14 = some (.inr (5, sjs))) (hn : isSub z = true) (ht : h.2.2 2 = some (rwO 3 n)) (hl : 59 ≤ h.1) (hc : h.1 + 5 ≤ ax_CM) (hs : h.2.1 + 12 ≤ ax_SM) : ax_F (m + 4) 19 [ax_A (some 1), ax_I z] h = ax_ci (ax_F (m + 3) 23 [ax_A (some (h.1 + 2))] (regH h n)) fun v14 h13 =>
    if v14 = 0 then
      ax_on h13 (some (h.1 + 1)) 0 <| ax_ci (ax_F (m + 3) 27 [ax_A (some (h.1 + 1))] h13) fun v35 h34 =>
      (ax_pf h34 (some 1) 8 7 (ax_I v35)).bind fun h36 =>
      ax_th h36 0
    else
      (ax_gr h13 (some 1) 8 1).bind fun v15 =>
      ax_on h13 (some (15 + 2 * z.toNatClampNeg)) 6 <| ax_ci (ax_F (m + 3) 66 [ax_A (some (15 + 2 * z.toNatClampNeg)), ax_A v15] h13) fun v17 h16 =>
      if v17 = (-1) then
        (ax_gr h16 (some 1) 8 1).bind fun v22 =>
        ax_on h16 (some (15 + 2 * z.toNatClampNeg)) 6 <| ax_ci (ax_F (m + 3) 69 [ax_A (some (15 + 2 * z.toNatClampNeg)), ax_A v22] h16) fun v24 h23 =>
        if v24 = 0 then
          ax_th h23 1
        else
          (ax_gr h23 (some 1) 8 1).bind fun v25 =>
          ax_on h23 v25 3 <| ax_cr (ax_F (m + 3) 84 [ax_A v25] h23) fun v27 h26 =>
          ax_on h26 (some (15 + 2 * z.toNatClampNeg)) 6 <| ax_ci (ax_F (m + 3) 88 [ax_A (some (15 + 2 * z.toNatClampNeg)), ax_A v27] h26) fun v29 h28 =>
          (ax_gr h28 (some 1) 8 0).bind fun v30 =>
          ax_on h28 v30 2 <| ax_ci (ax_F (m + 3) 10 [ax_A v30] h28) fun v32 h31 =>
          (ax_pf h31 (some 1) 8 7 (ax_I (-1))).bind fun h33 =>
          ax_ri v29 h33
      else
        (ax_gr h16 (some 1) 8 0).bind fun v18 =>
        ax_on h16 v18 2 <| ax_ci (ax_F (m + 3) 10 [ax_A v18] h16) fun v20 h19 =>
        (ax_pf h19 (some 1) 8 7 (ax_I (-1))).bind fun h21 =>
        ax_ri v17 h21 := by
  rw [Desk_register_F]
  unfold Desk_register_b
  rw [pl_on hd, pl_cr (Desk_subjectAt_e hd rfl hj hn)]
  rw [ax_new_e (by omega) (show h.2.1 + 3 ≤ _ by omega)]
  rw [pl_gr (hN_ne (show 1 ≠ h.1 + 1 by omega) |>.trans hd) (v := some 2) rfl, Option.bind_some]
  rw [pl_cv (Cursor_init_e (x := ax_A none) (y := ax_I 0) (z := ax_I 0) (hN_at rfl) (hN_ne (show 2 ≠ h.1 + 1 by omega) |>.trans ht) (by omega)), hN_set rfl]
  rw [ax_new_e (show h.1 + 1 + 1 ≤ _ by omega) (show h.2.1 + 3 + 3 ≤ _ by omega)]
  rw [pl_gr (hN_ne (show 1 ≠ h.1 + 1 + 1 by omega) |>.trans (hN_ne (show 1 ≠ h.1 + 1 by omega) |>.trans hd)) (v := some 4) rfl, Option.bind_some]
  refine Eq.trans (pl_cv (SchemaReader_init_e (m := m + 1) (h := hN (hN h 3 (.inl (0, [ax_A (some 3), ax_I n, ax_I 0]))) 3 (.inl (4, [ax_A none, ax_A none, ax_A none]))) (a := h.1 + 1 + 1) (x1 := some (h.1 + 1)) (x2 := some 4) (w0 := ax_A none) (w1 := ax_A none) (w2 := ax_A none) (hN_at rfl) (show h.1 + 1 + 1 ≤ h.1 + 1 + 1 from Nat.le_refl _) (show h.1 + 1 + 1 + 3 ≤ _ by omega) (show h.2.1 + 3 + 3 + 6 ≤ _ by omega))) ?_
  rw [hN_set (show h.1 + 1 + 1 = (hN h 3 (.inl (0, [ax_A (some 3), ax_I n, ax_I 0]))).1 + 1 from rfl)]
  exact pl_on (hN_ne (show h.1 + 2 ≠ h.1 + 4 + 1 by omega) |>.trans (hN_ne (show h.1 + 2 ≠ h.1 + 3 + 1 by omega) |>.trans (hN_ne (show h.1 + 2 ≠ h.1 + 2 + 1 by omega) |>.trans (hN_at rfl))))
theorem regH_3 {h : ax_Hp} {n : Int32} : (regH h n).2.2 (h.1 + 3) = some (.inl (2, [ax_A (some (h.1 + 4)), ax_I 0])) := (hN_ne (show h.1 + 3 ≠ h.1 + 4 + 1 by omega)).trans ((hN_ne (show h.1 + 3 ≠ h.1 + 3 + 1 by omega)).trans (hN_at rfl))
theorem regH_4 {h : ax_Hp} {n : Int32} : (regH h n).2.2 (h.1 + 4) = some (.inr (1, [])) := (hN_ne (show h.1 + 4 ≠ h.1 + 4 + 1 by omega)).trans (hN_at rfl)
theorem regH_5 {h : ax_Hp} {n : Int32} : (regH h n).2.2 (h.1 + 5) = some (.inl (7, [ax_A (some (h.1 + 1)), ax_A (some 4), ax_A (some (h.1 + 3)), ax_I 1])) := hN_at rfl
set_option maxHeartbeats 4000000 in
/-- the class reads the candidate -/
theorem Desk_reg_read {m n : Nat} {h : ax_Hp} {v : Int → Int} {f f5 f6 f7 : Nat → Int} (hl : 59 ≤ h.1) (h4 : h.2.2 4 = some (.inl (3, [ax_A (some 2), ax_A (some 5), ax_A (some 6), ax_A (some 7)]))) (ht : h.2.2 2 = some (rwO 3 (Int32.ofInt n))) (hti : h.2.2 3 = some (.inr (1, arL 160 f))) (h5 : h.2.2 5 = some (.inr (1, arL 160 f5))) (h6 : h.2.2 6 = some (.inr (1, arL 160 f6))) (h7 : h.2.2 7 = some (.inr (1, arL 160 f7))) (hn : n ≤ 160) (hf : ∀ q : Int, 0 ≤ q → q < n → f q.toNat = v q ∧ 1 ≤ v q ∧ v q < 128) (hv0 : ∀ q : Int, (n : Int) ≤ q → v q = 0) (hv1 : ∀ q : Int, 0 ≤ v q ∧ v q < 128) : ∃ (H : ax_Hp) (fe fn fu : Nat → Int) (x : Int32), ax_F (m + 33) 23 [ax_A (some (h.1 + 2))] (regH h (Int32.ofInt n)) = some (.inl (some (ax_I (Int32.ofInt (if spTy v 6 0 = n then 1 else 0)))), H) ∧ H.1 = h.1 + 5 ∧ H.2.1 = h.2.1 + 12 ∧ (∀ a, a ≤ h.1 → a ≠ 5 → a ≠ 6 → a ≠ 7 → H.2.2 a = h.2.2 a) ∧ H.2.2 5 = some (.inr (1, arL 160 fe)) ∧ H.2.2 6 = some (.inr (1, arL 160 fn)) ∧ H.2.2 7 = some (.inr (1, arL 160 fu)) ∧ H.2.2 (h.1 + 1) = some (.inl (0, [ax_A (some 3), ax_I x, ax_I (Int32.ofInt (if 0 ≤ spTy v 6 0 then spTy v 6 0 else -1 - spTy v 6 0))])) ∧ (spTy v 6 0 = n → gdS n v fe fn fu) := by
  obtain ⟨K, hK⟩ : ∃ K, K = eK (h.1 + 1) 5 6 7 (h.1 + 3) (h.1 + 4) 3 n 160 0 := ⟨_, rfl⟩
  have kk : kOk K := by
    rw [hK]
    refine ⟨fun i j hi hj => ?_, hn, Nat.le_refl _, by show (0 : Nat) ≤ 400; omega⟩
    rcases (show i = 0 ∨ i = 1 ∨ i = 2 ∨ i = 3 ∨ i = 4 ∨ i = 5 by omega) with rfl | rfl | rfl | rfl | rfl | rfl <;> rcases (show j = 0 ∨ j = 1 ∨ j = 2 ∨ j = 3 ∨ j = 4 ∨ j = 5 by omega) with rfl | rfl | rfl | rfl | rfl | rfl <;> intro z <;> first | rfl | (exfalso; simp only [eK] at z; omega)
  have kn : ∀ q, (q ≠ h.1 + 1 ∧ q ≠ 5 ∧ q ≠ 6 ∧ q ≠ 7 ∧ q ≠ h.1 + 3 ∧ q ≠ h.1 + 4) → ∀ i, i < 6 → q ≠ K i := fun q hq => by rw [hK]; exact eK_ne hq
  have k0 : K 0 = h.1 + 1 := by rw [hK]; rfl
  have k1 : K 1 = 5 := by rw [hK]; rfl
  have k2 : K 2 = 6 := by rw [hK]; rfl
  have k3 : K 3 = 7 := by rw [hK]; rfl
  have k4 : K 4 = h.1 + 3 := by rw [hK]; rfl
  have k5 : K 5 = h.1 + 4 := by rw [hK]; rfl
  have k6 : K 6 = 3 := by rw [hK]; rfl
  have k7 : K 7 = n := by rw [hK]; rfl
  have k8 : K 8 = 160 := by rw [hK]; rfl
  have k9 : K 9 = 0 := by rw [hK]; rfl
  obtain ⟨g, hg⟩ : ∃ g, g = regH h (Int32.ofInt n) := ⟨_, rfl⟩
  have ga : ∀ q, q ≤ h.1 → g.2.2 q = h.2.2 q := fun q a => by rw [hg]; exact regH_o a
  have V : cvX g K v := ⟨160, f, by rw [k6, ga _ (by omega), hti], by omega, by omega, by rw [k6]; exact kn 3 (by omega), by rw [k7]; exact hf, by rw [k7]; exact hv0, hv1⟩
  have S : csX g K 4 2 3 n v := ⟨by rw [k1, k2, k3, ga _ (by omega), h4], kn _ (by omega), by rw [ga _ (by omega)]; exact ht, kn _ (by omega), kn _ (by omega), hn, by omega, 160, f, by rw [ga _ (by omega), hti], by omega, by omega, fun p p0 p1 => (hf p p0 p1).1, hv0, hv1⟩
  have X : srX g K (h.1 + 2) 4 (h.1 + 5) := ⟨by rw [k0, hg]; exact regH_r, kn _ (by omega)⟩
  have Yv : vrX g K (h.1 + 5) 4 false := ⟨by rw [k0, k4, hg]; exact regH_5, kn _ (by omega)⟩
  have cid : cH g K (0, f5, f6, f7, 0, fun _ => 0) = g := cH_id (by rw [k0, k6, k7, hg]; exact regH_c) (by rw [k1, k8, ga _ (by omega)]; exact h5) (by rw [k2, k8, ga _ (by omega)]; exact h6) (by rw [k3, k8, ga _ (by omega)]; exact h7) (by rw [k4, k5, hg]; exact regH_3) (by rw [k5, k9, hg]; exact regH_4)
  obtain ⟨s', w1, w2, w3⟩ := Sr_whole (m := m) (s := (0, f5, f6, f7, 0, fun _ => 0)) kk (by omega) k9 X Yv V S rfl rfl
  rw [cid, k7] at w1
  rw [k7] at w3
  refine ⟨cH g K s', s'.2.1, s'.2.2.1, s'.2.2.2.1, Int32.ofInt n, by rw [← hg]; exact w1, by rw [cH_1, hg]; rfl, by rw [cH_2, hg]; rfl, fun a a1 a2 a3 a4 => ?_, ?_, ?_, ?_, ?_, fun ok => ?_⟩
  · rw [cH_o (kn a (by omega)), ga a a1]
  · have := cH_k1 g kk s'
    rw [k1, k8] at this
    exact this
  · have := cH_k2 g kk s'
    rw [k2, k8] at this
    exact this
  · have := cH_k3 g kk s'
    rw [k3, k8] at this
    exact this
  · have := cH_k0 g K s'
    rw [k0, k6, k7, show s'.1 = _ from w2] at this
    exact this
  · obtain ⟨u1, u2⟩ := w3 ok
    exact ⟨ok, u1, u2⟩
