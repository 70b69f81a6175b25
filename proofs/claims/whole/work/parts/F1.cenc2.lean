def dkO (o d : Nat) (p : Int32) : ax_Ob := .inl (8, [ax_A (some 2), ax_A (some 4), ax_A (some 8), ax_A (some 14), ax_A (some 23), ax_A (some o), ax_A (some d), ax_I p])
def rwO (i : Nat) (n : Int32) : ax_Ob := .inl (2, [ax_A (some i), ax_I n])
/-- where OUT and the draft lie -/
def odX (o oi dr di : Nat) : Prop := (o = 10 ∧ oi = 11 ∧ dr = 12 ∧ di = 13) ∨ (o = 12 ∧ oi = 13 ∧ dr = 10 ∧ di = 11)
/-- the heap when a value is to be read -/
def encH (h : ax_Hp) (n : Int32) (sc dr di : Nat) : ax_Hp := hN (hN (ax_set h dr (rwO di 0)) 3 (.inl (0, [ax_A (some 3), ax_I n, ax_I 0]))) 4 (.inl (7, [ax_A (some (h.1 + 1)), ax_A (some sc), ax_A (some dr), ax_I 0]))
theorem encH_at {h : ax_Hp} {n : Int32} {sc dr di q : Nat} (h0 : q ≤ h.1) (h1 : q ≠ dr) : (encH h n sc dr di).2.2 q = h.2.2 q := by
  unfold encH
  rw [hN_ne (show q ≠ h.1 + 1 + 1 by omega), hN_ne (h := ax_set h dr (rwO di 0)) (show q ≠ h.1 + 1 by omega), pl_ne h1]
theorem encH_dr {h : ax_Hp} {n : Int32} {sc dr di : Nat} (h0 : dr ≤ h.1) : (encH h n sc dr di).2.2 dr = some (rwO di 0) := by
  unfold encH
  rw [hN_ne (show dr ≠ h.1 + 1 + 1 by omega), hN_ne (h := ax_set h dr (rwO di 0)) (show dr ≠ h.1 + 1 by omega), pl_set]
theorem encH_cu {h : ax_Hp} {n : Int32} {sc dr di : Nat} : (encH h n sc dr di).2.2 (h.1 + 1) = some (.inl (0, [ax_A (some 3), ax_I n, ax_I 0])) := by
  unfold encH
  exact (hN_ne (show h.1 + 1 ≠ h.1 + 1 + 1 by omega)).trans (hN_at (h := ax_set h dr (rwO di 0)) rfl)
theorem encH_vr {h : ax_Hp} {n : Int32} {sc dr di : Nat} : (encH h n sc dr di).2.2 (h.1 + 2) = some (.inl (7, [ax_A (some (h.1 + 1)), ax_A (some sc), ax_A (some dr), ax_I 0])) := by
  unfold encH
  exact hN_at rfl
/-- what the class does before it reads a value -/
theorem Desk_encode_pre {m sc o oi dr di : Nat} {n nd p z w : Int32} {h : ax_Hp} (O : odX o oi dr di) (hl : 59 ≤ h.1) (hd : h.2.2 1 = some (dkO o dr p)) (ht : h.2.2 2 = some (rwO 3 n)) (hdr : h.2.2 dr = some (rwO di nd)) (hv : ax_F (m + 3) 94 [ax_A (some 1), ax_I z, ax_I w] h = some (.inl (some (ax_A (some sc))), h)) (hc : h.1 + 2 ≤ ax_CM) (hs : h.2.1 + 7 ≤ ax_SM) : ax_F (m + 4) 105 [ax_A (some 1), ax_I z, ax_I w] h = ax_ci (ax_F (m + 3) 106 [ax_A (some (h.1 + 2))] (encH h n sc dr di)) fun v17 h16 =>
    if v17 = 0 then
      ax_on h16 (some (h.1 + 1)) 0 <| ax_ci (ax_F (m + 3) 27 [ax_A (some (h.1 + 1))] h16) fun v25 h24 =>
      (ax_pf h24 (some 1) 8 7 (ax_I v25)).bind fun h26 =>
      ax_th h26 0
    else
      (ax_gr h16 (some 1) 8 0).bind fun v18 =>
      ax_on h16 v18 2 <| ax_ci (ax_F (m + 3) 10 [ax_A v18] h16) fun v20 h19 =>
      (ax_pf h19 (some 1) 8 7 (ax_I (-1))).bind fun h21 =>
      ax_on h21 (some 1) 8 <| ax_ci (ax_F (m + 3) 100 [ax_A (some 1)] h21) fun v23 h22 =>
      ax_ri v23 h22 := by
  have d1 : dr ≤ 13 ∧ 10 ≤ dr := by rcases O with ⟨a, b, c, d⟩ | ⟨a, b, c, d⟩ <;> omega
  rw [Desk_encode_F]
  unfold Desk_encode_b
  rw [pl_on hd, pl_cr hv]
  rw [ax_new_e (by omega) (show h.2.1 + 3 ≤ _ by omega)]
  rw [pl_gr (hN_ne (show 1 ≠ h.1 + 1 by omega) |>.trans hd) (v := some 2) rfl, Option.bind_some]
  rw [pl_cv (Cursor_init_e (x := ax_A none) (y := ax_I 0) (z := ax_I 0) (hN_at rfl) (hN_ne (show 2 ≠ h.1 + 1 by omega) |>.trans ht) (by omega)), hN_set rfl]
  rw [pl_gr (hN_ne (show 1 ≠ h.1 + 1 by omega) |>.trans hd) (v := some dr) rfl, Option.bind_some]
  rw [pl_on (hN_ne (show dr ≠ h.1 + 1 by omega) |>.trans hdr), pl_ci (Row_clr (hN_ne (show dr ≠ h.1 + 1 by omega) |>.trans hdr)), hN_sets (show dr ≠ h.1 + 1 by omega), show (Sum.inl (2, [ax_A (some di), ax_I 0]) : ax_Ob) = rwO di 0 from rfl]
  rw [ax_new_e (show h.1 + 1 + 1 ≤ _ by omega) (show h.2.1 + 3 + 4 ≤ _ by omega)]
  rw [pl_gr ((hN_ne (show 1 ≠ h.1 + 1 + 1 by omega)).trans ((hN_ne (h := ax_set h dr (rwO di 0)) (show 1 ≠ h.1 + 1 by omega)).trans ((pl_ne (show 1 ≠ dr by omega)).trans hd))) (v := some dr) rfl, Option.bind_some]
  rw [pl_cv (ValueReader_init_e (w0 := ax_A none) (w1 := ax_A none) (w2 := ax_A none) (w3 := ax_I 0) (hN_at rfl) (Or.inl rfl)), hN_set rfl]
  exact pl_on (encH_vr (n := n) (sc := sc) (dr := dr) (di := di))
theorem Cu_at' {m a : Nat} {h : ax_Hp} {x y : ax_T} {p : Int32} (e : h.2.2 a = some (.inl (0, [x, y, ax_I p]))) : ax_F (m + 1) 27 [ax_A (some a)] h = some (.inl (some (ax_I p)), h) := by
  rw [Cursor_at_F]
  unfold Cursor_at_b
  rw [pl_gi e (v := p) rfl]
  rfl
set_option maxHeartbeats 4000000 in
/-- the class encodes as the text says -/
theorem Desk_encode_y {m sc l o oi dr di n : Nat} {nd p z w : Int32} {h : ax_Hp} {c v : Int → Int} {fe fn fu f fd : Nat → Int} (O : odX o oi dr di) (hl : 59 ≤ h.1) (hd : h.2.2 1 = some (dkO o dr p)) (ht : h.2.2 2 = some (rwO 3 (Int32.ofInt n))) (hti : h.2.2 3 = some (.inr (1, arL 160 f))) (hdr : h.2.2 dr = some (rwO di nd)) (hdi : h.2.2 di = some (.inr (1, arL 400 fd))) (VX : verX h sc l c fe fn fu) (hv : ax_F (m + 18) 94 [ax_A (some 1), ax_I z, ax_I w] h = some (.inl (some (ax_A (some sc))), h)) (hn : n ≤ 160) (hf : ∀ q : Int, 0 ≤ q → q < n → f q.toNat = v q ∧ 1 ≤ v q ∧ v q < 128) (hv0 : ∀ q : Int, (n : Int) ≤ q → v q = 0) (hv1 : ∀ q : Int, 0 ≤ v q ∧ v q < 128) (hc : h.1 + 3 ≤ ax_CM) (hs : h.2.1 + 13 ≤ ax_SM) :
    (spVal c v true 6 0 0 = n → ∃ (h' : ax_Hp) (f' : Nat → Int), ax_F (m + 19) 105 [ax_A (some 1), ax_I z, ax_I w] h = some (.inl (some (ax_I (Int32.ofInt (spO 1 c v true 6 0 0).length))), h') ∧ h'.1 = h.1 + 2 ∧ h'.2.1 = h.2.1 + 7 ∧ h'.2.2 1 = some (dkO dr o (-1)) ∧ h'.2.2 2 = some (rwO 3 0) ∧ h'.2.2 dr = some (rwO di (Int32.ofInt (spO 1 c v true 6 0 0).length)) ∧ h'.2.2 di = some (.inr (1, arL 400 f')) ∧ (∀ j : Nat, j < (spO 1 c v true 6 0 0).length → f' j = (spO 1 c v true 6 0 0).getD j 0) ∧ (spO 1 c v true 6 0 0).length ≤ n ∧ ∀ a, a ≤ h.1 → a ≠ 1 → a ≠ 2 → a ≠ dr → a ≠ di → h'.2.2 a = h.2.2 a) ∧
    (spVal c v true 6 0 0 ≠ n → ∃ (h' : ax_Hp) (nd' : Int32) (f' : Nat → Int), ax_F (m + 19) 105 [ax_A (some 1), ax_I z, ax_I w] h = some (.inr (0, h.1 + 3), h') ∧ h'.1 = h.1 + 3 ∧ h'.2.1 = h.2.1 + 13 ∧ h'.2.2 1 = some (dkO o dr (Int32.ofInt (if 0 ≤ spVal c v true 6 0 0 then spVal c v true 6 0 0 else -1 - spVal c v true 6 0 0))) ∧ h'.2.2 dr = some (rwO di nd') ∧ h'.2.2 di = some (.inr (1, arL 400 f')) ∧ ∀ a, a ≤ h.1 → a ≠ 1 → a ≠ dr → a ≠ di → h'.2.2 a = h.2.2 a) := by
  have d1 : dr ≤ 13 ∧ 10 ≤ dr ∧ di ≤ 13 ∧ 10 ≤ di ∧ dr ≠ di := by rcases O with ⟨a, b, c, d⟩ | ⟨a, b, c, d⟩ <;> omega
  obtain ⟨d1, d2, d3, d4, d5⟩ := d1
  obtain ⟨v1, v2, v3, v4, v5, v6, v7, v8, v9, v10, v11, gT, gE, gM⟩ := VX
  obtain ⟨K, hK⟩ : ∃ K, K = eK (h.1 + 1) (sc + 3) (sc + 4) (sc + 5) dr di 3 n l 400 := ⟨_, rfl⟩
  have kk : kOk K := by rw [hK]; exact eK_ok (by omega) (by omega) (by omega) (by omega) (by omega) d5 hn v9 (by omega)
  have kn : ∀ q, (q ≠ h.1 + 1 ∧ q ≠ sc + 3 ∧ q ≠ sc + 4 ∧ q ≠ sc + 5 ∧ q ≠ dr ∧ q ≠ di) → ∀ i, i < 6 → q ≠ K i := fun q hq => by rw [hK]; exact eK_ne hq
  have k0 : K 0 = h.1 + 1 := by rw [hK]; rfl
  have k1 : K 1 = sc + 3 := by rw [hK]; rfl
  have k2 : K 2 = sc + 4 := by rw [hK]; rfl
  have k3 : K 3 = sc + 5 := by rw [hK]; rfl
  have k4 : K 4 = dr := by rw [hK]; rfl
  have k5 : K 5 = di := by rw [hK]; rfl
  have k6 : K 6 = 3 := by rw [hK]; rfl
  have k7 : K 7 = n := by rw [hK]; rfl
  have k8 : K 8 = l := by rw [hK]; rfl
  have k9 : K 9 = 400 := by rw [hK]; rfl
  obtain ⟨g, hg⟩ : ∃ g, g = encH h (Int32.ofInt n) sc dr di := ⟨_, rfl⟩
  have ga : ∀ q, q ≤ h.1 → q ≠ dr → g.2.2 q = h.2.2 q := fun q a b => by rw [hg]; exact encH_at a b
  have V : cvX g K v := ⟨160, f, by rw [k6, ga _ (by omega) (by omega), hti], by omega, by omega, by rw [k6]; exact kn 3 (by omega), by rw [k7]; exact hf, by rw [k7]; exact hv0, hv1⟩
  have S : csX g K sc (sc + 1) (sc + 2) l c := ⟨by rw [k1, k2, k3, ga _ (by omega) (by omega), v1], kn _ (by omega), by rw [ga _ (by omega) (by omega), v2], kn _ (by omega), kn _ (by omega), v9, by omega, l, fun i => c i, by rw [ga _ (by omega) (by omega), v3], by omega, by omega, fun p p0 _ => by show c (p.toNat : Int) = c p; rw [Int.toNat_of_nonneg p0], v10, v11⟩
  have X : vrX g K (h.1 + 2) sc true := ⟨by rw [k0, k4, hg]; exact encH_vr, kn _ (by omega)⟩
  have cid : cH g K (0, fe, fn, fu, 0, fd) = g := cH_id (by rw [k0, k6, k7, hg]; exact encH_cu) (by rw [k1, k8, ga _ (by omega) (by omega)]; exact v4) (by rw [k2, k8, ga _ (by omega) (by omega)]; exact v5) (by rw [k3, k8, ga _ (by omega) (by omega)]; exact v6) (by rw [k4, k5, hg]; exact encH_dr (by omega)) (by rw [k5, k9, ga _ (by omega) (by omega)]; exact hdi)
  obtain ⟨s', w1, w2, w3, w4, w5⟩ := Vr_whole (m := m) (s := (0, fe, fn, fu, 0, fd)) kk k9 X V S (by omega) (MkB_N 6 0 gM) rfl rfl
  rw [cid] at w1
  have m1 : s'.2.1 = fe := w3.1
  have m2 : s'.2.2.2.1 = fu := w3.2 rfl
  have m3 : s'.2.2.1 = fn := w4
  obtain ⟨H, hH⟩ : ∃ H, H = cH g K s' := ⟨_, rfl⟩
  rw [← hH] at w1
  have Ha : ∀ q, q ≤ h.1 → q ≠ dr → q ≠ di → H.2.2 q = h.2.2 q := fun q a b d => by
    rw [hH]
    by_cases c1 : q = sc + 3
    · rw [c1, ← k1, cH_k1 g kk, m1, k8, k1, v4]
    by_cases c2 : q = sc + 4
    · rw [c2, ← k2, cH_k2 g kk, m3, k8, k2, v5]
    by_cases c3 : q = sc + 5
    · rw [c3, ← k3, cH_k3 g kk, m2, k8, k3, v6]
    rw [cH_o (kn q (by omega)), ga q a b]
  have Hdr : H.2.2 dr = some (rwO di (Int32.ofInt s'.2.2.2.2.1)) := by rw [hH, ← k4, cH_k4 g kk, k5]; rfl
  have Hdi : H.2.2 di = some (.inr (1, arL 400 s'.2.2.2.2.2)) := by rw [hH, ← k5, cH_k5 g kk, k9]
  have Hcu : H.2.2 (h.1 + 1) = some (.inl (0, [ax_A (some (K 6)), ax_I (Int32.ofInt (K 7)), ax_I (Int32.ofInt s'.1)])) := by rw [hH, ← k0]; exact cH_k0 g K s'
  have H1 : H.1 = h.1 + 2 := by rw [hH, cH_1, hg]; rfl
  have H2 : H.2.1 = h.2.1 + 7 := by rw [hH, cH_2, hg]; rfl
  have Hd := (Ha 1 (by omega) (by omega) (by omega)).trans hd
  have Ht := (Ha 2 (by omega) (by omega) (by omega)).trans ht
  have ve : s'.1 = if 0 ≤ spVal c v true 6 0 0 then spVal c v true 6 0 0 else -1 - spVal c v true 6 0 0 := w2
  clear hH cid V S X
  generalize spVal c v true 6 0 0 = e at *
  generalize spO 1 c v true 6 0 0 = L at *
  have pre := Desk_encode_pre (m := m + 15) (n := Int32.ofInt n) (sc := sc) (nd := nd) O hl hd ht hdr hv (by omega) (by omega)
  rw [← hg, pl_ci (show ax_F (m + 15 + 3) 106 [ax_A (some (h.1 + 2))] g = _ from w1), k7] at pre
  refine ⟨fun he => ?_, fun he => ?_⟩
  · rw [if_pos he, if_neg (show ¬ Int32.ofInt 1 = 0 from by decide), pl_gr Hd (v := some 2) rfl, Option.bind_some, pl_on Ht, pl_ci (Row_clr Ht)] at pre
    have q1 : ax_pf (ax_set H 2 (rwO 3 0)) (some 1) 8 7 (ax_I (-1)) = some (ax_set (ax_set H 2 (rwO 3 0)) 1 (dkO o dr (-1))) := pl_pf ((pl_ne (by decide)).trans Hd) (Nat.le_of_ble_eq_true rfl)
    obtain ⟨b1, b2, b3⟩ := w5 (by omega)
    obtain ⟨b4, b5, b6⟩ := b1.2 (by omega)
    have b4' : s'.2.2.2.2.1 = L.length := by rw [b4]; show (0 : Int) + _ = _; omega
    rw [b4'] at Hdr
    have Hdr' : (ax_set (ax_set H 2 (rwO 3 0)) 1 (dkO o dr (-1))).2.2 dr = some (rwO di (Int32.ofInt L.length)) := by rw [pl_ne (by omega), pl_ne (by omega), Hdr]
    have q2 : ax_F (m + 15 + 3) 100 [ax_A (some 1)] (ax_set (ax_set H 2 (rwO 3 0)) 1 (dkO o dr (-1))) = some (.inl (some (ax_I (Int32.ofInt L.length))), ax_set (ax_set (ax_set H 2 (rwO 3 0)) 1 (dkO o dr (-1))) 1 (dkO dr o (-1))) := Desk_showDraft_e pl_set Hdr' (by omega)
    rw [show (ax_set H 2 (.inl (2, [ax_A (some 3), ax_I 0]))) = ax_set H 2 (rwO 3 0) from rfl, q1, Option.bind_some, pl_on (show (ax_set (ax_set H 2 (rwO 3 0)) 1 (dkO o dr (-1))).2.2 1 = some (dkO o dr (-1)) from pl_set), pl_ci q2, ax_set_set] at pre
    refine ⟨ax_set (ax_set H 2 (rwO 3 0)) 1 (dkO dr o (-1)), s'.2.2.2.2.2, pre, H1, H2, pl_set, ?_, ?_, ?_, fun j hj => ?_, ?_, fun a a1 a2 a3 a4 a5 => ?_⟩
    · rw [pl_ne (by decide), pl_set]
    · rw [pl_ne (by omega), pl_ne (by omega), Hdr]
    · rw [pl_ne (by omega), pl_ne (by omega), Hdi]
    · have := b6 j hj
      rw [show ((0 : Int) + (j : Int)).toNat = j by omega] at this
      exact this
    · have b3' : (L.length : Int) ≤ e - 0 := b3
      omega
    · rw [pl_ne a2, pl_ne a3, Ha a a1 a4 a5]
  · have q1 : ax_pf H (some 1) 8 7 (ax_I (Int32.ofInt s'.1)) = some (ax_set H 1 (dkO o dr (Int32.ofInt s'.1))) := pl_pf Hd (Nat.le_of_ble_eq_true rfl)
    rw [if_neg he, if_pos (show Int32.ofInt 0 = 0 from rfl), pl_on Hcu, pl_ci (Cu_at' Hcu), q1, Option.bind_some, ax_th_e (h := ax_set H 1 (dkO o dr (Int32.ofInt s'.1))) (show H.1 + 1 ≤ _ by omega) (show H.2.1 + 6 ≤ _ by omega)] at pre
    rw [show (ax_set H 1 (dkO o dr (Int32.ofInt s'.1))).1 + 1 = h.1 + 3 from by show H.1 + 1 = _; omega] at pre
    have Z : ∀ q, q ≤ h.1 → (thr (ax_set H 1 (dkO o dr (Int32.ofInt s'.1)))).2.2 q = (ax_set H 1 (dkO o dr (Int32.ofInt s'.1))).2.2 q := fun q hq => thr_at (by show q ≤ H.1; omega)
    refine ⟨thr (ax_set H 1 (dkO o dr (Int32.ofInt s'.1))), Int32.ofInt s'.2.2.2.2.1, s'.2.2.2.2.2, pre, by show H.1 + 1 = _; omega, by show H.2.1 + 6 = _; omega, ?_, ?_, ?_, fun a a1 a2 a3 a4 => ?_⟩
    · rw [Z 1 (by omega), pl_set, ve]
    · rw [Z dr (by omega), pl_ne (by omega), Hdr]
    · rw [Z di (by omega), pl_ne (by omega), Hdi]
    · rw [Z a a1, pl_ne a2, Ha a a1 a3 a4]
