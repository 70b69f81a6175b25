theorem Rv_whole {m : Nat} {g : ax_Hp} {rv cu sr sw sd dr di N lw lr : Nat} {w r b : Int → Int} {we wn wu re rn ru f0 : Nat → Int} {q : Int} {x : Int64} {fs : Nat → Int} (X : rvX g rv cu sr sw sd dr di N lw lr w r b we wn wu re rn ru) (hS : 0 ≤ spSc w b 6 0 0) : rsR g cu sr sw N dr di f0 (ax_F (m + 80) 124 [ax_A (some rv)] (dH g cu sr sw N dr di f0 q x [] fs)) (rsv r w b 13 6 6 0 0 0) (spSc w b 6 0 0) [] fs 0 (spTy w 6 0) := by
  have VW := X.2.2.2.2.2.2.2.2.2.2.2.2.1
  have VR := X.2.2.2.2.2.2.2.2.2.2.2.2.2.1
  have gw := gdS_T VW.2.2.2.2.2.2.2.2.2.2.2
  have gr := gdS_T VR.2.2.2.2.2.2.2.2.2.2.2
  rw [Resolver_resolveWhole_F]
  unfold Resolver_resolveWhole_b
  rw [dH_0 X, Option.bind_some, dH_cuon X, show (0 : Int32) = Int32.ofInt 0 from rfl, pl_cv (Rv_mov X), dH_on X]
  exact rsR_z (Rv_all X 13 m 6 6 0 0 0 0 x [] fs (by omega) (by omega) (by omega) (by omega) (by omega) gr gw (by omega) (by omega) hS (by rw [List.length_nil]; omega))
set_option maxHeartbeats 4000000 in
/-- the class decodes as the text says -/
theorem Desk_decode_y {m sw sd lw lr o oi dr di N : Nat} {nd p z w v : Int32} {h : ax_Hp} {c d b : Int → Int} {we wn wu re rn ru fd fb f23 : Nat → Int} (O : odX o oi dr di) (hl : 59 ≤ h.1) (hd : h.2.2 1 = some (dkO o dr p)) (h8 : h.2.2 8 = some (rwO 9 (Int32.ofInt N))) (h9 : h.2.2 9 = some (.inr (1, arL 64 fb))) (n64 : N ≤ 64) (B : bSt b N) (hb : ∀ p : Int, 0 ≤ p → p < N → fb p.toNat = b p) (hdr : h.2.2 dr = some (rwO di nd)) (hdi : h.2.2 di = some (.inr (1, arL 400 fd))) (h23 : h.2.2 23 = some (.inr (1, arL 160 f23))) (VW : verX h sw lw d we wn wu) (VR : verX h sd lr c re rn ru) (hv1 : ax_F (m + 81) 94 [ax_A (some 1), ax_I z, ax_I w] h = some (.inl (some (ax_A (some sw))), h)) (hv2 : ax_F (m + 81) 94 [ax_A (some 1), ax_I z, ax_I v] h = some (.inl (some (ax_A (some sd))), h)) (hc : h.1 + 5 ≤ ax_CM) (hs : h.2.1 + 21 ≤ ax_SM) :
    (spSc d b 6 0 0 ≠ N → ∃ h' : ax_Hp, ax_F (m + 82) 108 [ax_A (some 1), ax_I z, ax_I w, ax_I v] h = some (.inr (0, h.1 + 3), h') ∧ h'.1 = h.1 + 3 ∧ h'.2.1 = h.2.1 + 12 ∧ h'.2.2 1 = some (dkO o dr (Int32.ofInt (if 0 ≤ spSc d b 6 0 0 then spSc d b 6 0 0 else -1 - spSc d b 6 0 0))) ∧ ∀ a, a ≤ h.1 → a ≠ 1 → h'.2.2 a = h.2.2 a) ∧
    (spSc d b 6 0 0 = N → okL (rsv c d b 13 6 6 0 0 0) [] = false → ∃ (h' : ax_Hp) (nd' : Int32) (f' g' : Nat → Int), ax_F (m + 82) 108 [ax_A (some 1), ax_I z, ax_I w, ax_I v] h = some (.inr (1, h.1 + 5), h') ∧ h'.1 = h.1 + 5 ∧ h'.2.1 = h.2.1 + 21 ∧ h'.2.2 dr = some (rwO di nd') ∧ h'.2.2 di = some (.inr (1, arL 400 f')) ∧ h'.2.2 23 = some (.inr (1, arL 160 g')) ∧ ∀ a, a ≤ h.1 → a ≠ dr → a ≠ di → a ≠ 23 → h'.2.2 a = h.2.2 a) ∧
    (spSc d b 6 0 0 = N → ∀ k, rsv c d b 13 6 6 0 0 0 = some k → k.length ≤ 400 → ∃ (h' : ax_Hp) (f' g' : Nat → Int), ax_F (m + 82) 108 [ax_A (some 1), ax_I z, ax_I w, ax_I v] h = some (.inl (some (ax_I (Int32.ofInt k.length))), h') ∧ h'.1 = h.1 + 4 ∧ h'.2.1 = h.2.1 + 15 ∧ h'.2.2 1 = some (dkO dr o (-1)) ∧ h'.2.2 8 = some (rwO 9 0) ∧ h'.2.2 dr = some (rwO di (Int32.ofInt k.length)) ∧ h'.2.2 di = some (.inr (1, arL 400 f')) ∧ (∀ j : Nat, j < k.length → f' j = k.getD j 0) ∧ h'.2.2 23 = some (.inr (1, arL 160 g')) ∧ ∀ a, a ≤ h.1 → a ≠ 1 → a ≠ 8 → a ≠ dr → a ≠ di → a ≠ 23 → h'.2.2 a = h.2.2 a) := by
  have d1 : dr ≤ 13 ∧ 10 ≤ dr ∧ di ≤ 13 ∧ 10 ≤ di ∧ dr ≠ di := by rcases O with ⟨a, b, c, d⟩ | ⟨a, b, c, d⟩ <;> omega
  obtain ⟨d1, d2, d3, d4, d5⟩ := d1
  have w7 := VW.2.2.2.2.2.2.1
  have w8 := VW.2.2.2.2.2.2.2.1
  have r7 := VR.2.2.2.2.2.2.1
  have r8 := VR.2.2.2.2.2.2.2.1
  obtain ⟨g, hg⟩ : ∃ g, g = dcH h N sw := ⟨_, rfl⟩
  have ga : ∀ q, q ≤ h.1 → g.2.2 q = h.2.2 q := fun q a => by rw [hg]; exact dcH_at a
  have g1 : g.1 = h.1 + 2 := by rw [hg]; rfl
  have g2 : g.2.1 = h.2.1 + 6 := by rw [hg]; rfl
  have X : stX g (h.1 + 1) (h.1 + 2) sw N b := ⟨by omega, by omega, by omega, w7, n64, B, fb, (ga 9 (by omega)).trans h9, hb⟩
  have V1 : verX g sw lw d we wn wu := verX_k2 VW (by omega) (fun a a1 a2 => ga a (by omega))
  obtain ⟨x', e1⟩ := Sk_whole (m := m + 58) (x := 0) X V1
  rw [sH_id (by rw [hg]; exact dcH_cu) (by rw [hg]; exact dcH_sr)] at e1
  have pre := Desk_decode_pre (m := m + 80) (N := N) hl hd h8 hv1 hv2 (by omega) (by omega)
  rw [← hg, pl_ci (show ax_F (m + 80 + 1) 110 [ax_A (some (h.1 + 2))] g = _ from e1)] at pre
  have bE := spSc_b (c := d) B 6 0 0 (by omega) (by omega)
  obtain ⟨E, hE⟩ : ∃ E, E = (if 0 ≤ spSc d b 6 0 0 then spSc d b 6 0 0 else -1 - spSc d b 6 0 0) := ⟨_, rfl⟩
  rw [← hE] at pre
  obtain ⟨H, hH⟩ : ∃ H, H = sH g (h.1 + 1) (h.1 + 2) sw N E x' := ⟨_, rfl⟩
  rw [← hH] at pre
  have Ha : ∀ q, q ≤ h.1 → H.2.2 q = h.2.2 q := fun q a => by rw [hH, sH_o (by omega) (by omega), ga q a]
  have Hcu : H.2.2 (h.1 + 1) = some (curO N E) := by rw [hH]; exact sH_cu (by omega)
  have H1 : H.1 = h.1 + 2 := by rw [hH]; exact g1
  have H2 : H.2.1 = h.2.1 + 6 := by rw [hH]; exact g2
  have Hd := (Ha 1 (by omega)).trans hd
  have Hdr := (Ha dr (by omega)).trans hdr
  have Hdi := (Ha di (by omega)).trans hdi
  clear e1 X V1 hH
  refine ⟨fun ne => ?_, ?_⟩
  · rw [if_neg ne] at pre
    unfold deK at pre
    have q1 : ax_pf H (some 1) 8 7 (ax_I (Int32.ofInt E)) = some (ax_set H 1 (dkO o dr (Int32.ofInt E))) := pl_pf Hd (Nat.le_of_ble_eq_true rfl)
    rw [if_pos (show Int32.ofInt 0 = 0 from rfl), pl_on Hcu, pl_ci (Cu_at' Hcu), q1, Option.bind_some, ax_th_e (h := ax_set H 1 (dkO o dr (Int32.ofInt E))) (show H.1 + 1 ≤ _ by omega) (show H.2.1 + 6 ≤ _ by omega)] at pre
    rw [show (ax_set H 1 (dkO o dr (Int32.ofInt E))).1 + 1 = h.1 + 3 from by show H.1 + 1 = _; omega] at pre
    have Z : ∀ q, q ≤ h.1 → (thr (ax_set H 1 (dkO o dr (Int32.ofInt E)))).2.2 q = (ax_set H 1 (dkO o dr (Int32.ofInt E))).2.2 q := fun q hq => thr_at (by show q ≤ H.1; omega)
    refine ⟨thr (ax_set H 1 (dkO o dr (Int32.ofInt E))), pre, by show H.1 + 1 = _; omega, by show H.2.1 + 6 = _; omega, ?_, fun a a1 a2 => ?_⟩
    · rw [Z 1 (by omega), pl_set, hE]
    · rw [Z a a1, pl_ne a2, Ha a a1]
  · suffices M : spSc d b 6 0 0 = N → ∃ (G : ax_Hp) (q' : Int) (x2 : Int64) (L' : List Int) (fs' : Nat → Int), ax_F (m + 82) 108 [ax_A (some 1), ax_I z, ax_I w, ax_I v] h = (if okL (rsv c d b 13 6 6 0 0 0) [] = true then (ax_gr (dH G (h.1 + 1) (h.1 + 4) sw N dr di fd q' x2 L' fs') (some 1) 8 2).bind fun v27 => ax_on (dH G (h.1 + 1) (h.1 + 4) sw N dr di fd q' x2 L' fs') v27 2 <| ax_ci (ax_F (m + 81) 10 [ax_A v27] (dH G (h.1 + 1) (h.1 + 4) sw N dr di fd q' x2 L' fs')) fun v29 h28 => (ax_pf h28 (some 1) 8 7 (ax_I (-1))).bind fun h30 => ax_on h30 (some 1) 8 <| ax_ci (ax_F (m + 81) 100 [ax_A (some 1)] h30) fun v32 h31 => ax_ri v32 h31 else ax_th (dH G (h.1 + 1) (h.1 + 4) sw N dr di fd q' x2 L' fs') 1) ∧ (okL (rsv c d b 13 6 6 0 0 0) [] = true → rsv c d b 13 6 6 0 0 0 = some L') ∧ L'.length ≤ 400 ∧ G.1 = h.1 + 4 ∧ G.2.1 = h.2.1 + 15 ∧ (∀ a, a ≤ h.1 → a ≠ dr → a ≠ di → G.2.2 a = h.2.2 a) by
      have At : ∀ {G : ax_Hp} {q' : Int} {x2 : Int64} {L' : List Int} {fs' : Nat → Int}, (∀ a, a ≤ h.1 → a ≠ dr → a ≠ di → G.2.2 a = h.2.2 a) → ∀ a, a ≤ h.1 → a ≠ dr → a ≠ di → a ≠ 23 → (dH G (h.1 + 1) (h.1 + 4) sw N dr di fd q' x2 L' fs').2.2 a = h.2.2 a := fun Gk a a1 a2 a3 a4 => by
        unfold dH
        rw [rH_o a2 a3, sH_o (by omega) (by omega), pl_ne a4, Gk a a1 a2 a3]
      have A23 : ∀ {G : ax_Hp} {q' : Int} {x2 : Int64} {L' : List Int} {fs' : Nat → Int}, (dH G (h.1 + 1) (h.1 + 4) sw N dr di fd q' x2 L' fs').2.2 23 = some (.inr (1, arL 160 fs')) := fun {G q' x2 L' fs'} => by
        unfold dH
        rw [rH_o (by omega) (by omega), sH_o (by omega) (by omega), pl_set]
      refine ⟨fun eq no => ?_, fun eq k hk hk2 => ?_⟩
      · obtain ⟨G, q', x2, L', fs', p1, -, -, p4, p5, p6⟩ := M eq
        obtain ⟨J, hJ⟩ : ∃ J, J = dH G (h.1 + 1) (h.1 + 4) sw N dr di fd q' x2 L' fs' := ⟨_, rfl⟩
        have J1 : J.1 = h.1 + 4 := by rw [hJ]; exact p4
        have J2 : J.2.1 = h.2.1 + 15 := by rw [hJ]; exact p5
        rw [no, if_neg (by decide), ← hJ, ax_th_e (show J.1 + 1 ≤ _ by omega) (show J.2.1 + 6 ≤ _ by omega), J1] at p1
        have Z : ∀ q, q ≤ h.1 → (thr J).2.2 q = J.2.2 q := fun q hq => thr_at (by omega)
        refine ⟨thr J, Int32.ofInt L'.length, lsF fd L', fs', p1, by show J.1 + 1 = _; omega, by show J.2.1 + 6 = _; omega, ?_, ?_, ?_, fun a a1 a2 a3 a4 => ?_⟩
        · rw [Z dr (by omega), hJ]; exact rH_dr _ _ _ _ _
        · rw [Z di (by omega), hJ]; exact rH_di _ _ _ d5
        · rw [Z 23 (by omega), hJ]; exact A23
        · rw [Z a a1, hJ]; exact At p6 a a1 a2 a3 a4
      · obtain ⟨G, q', x2, L', fs', p1, p2, p3, p4, p5, p6⟩ := M eq
        have ok : okL (rsv c d b 13 6 6 0 0 0) [] = true := okL_t.mpr ⟨k, hk, by rw [List.length_nil]; omega⟩
        have hkL : L' = k := Option.some.inj ((p2 ok).symm.trans hk)
        subst hkL
        rw [ok, if_pos rfl] at p1
        obtain ⟨J, hJ⟩ : ∃ J, J = dH G (h.1 + 1) (h.1 + 4) sw N dr di fd q' x2 L' fs' := ⟨_, rfl⟩
        have J1 : J.1 = h.1 + 4 := by rw [hJ]; exact p4
        have J2 : J.2.1 = h.2.1 + 15 := by rw [hJ]; exact p5
        have Ja : ∀ a, a ≤ h.1 → a ≠ dr → a ≠ di → a ≠ 23 → J.2.2 a = h.2.2 a := fun a a1 a2 a3 a4 => by rw [hJ]; exact At p6 a a1 a2 a3 a4
        have J23 : J.2.2 23 = some (.inr (1, arL 160 fs')) := by rw [hJ]; exact A23
        have Jdr : J.2.2 dr = some (rwO di (Int32.ofInt L'.length)) := by rw [hJ]; exact rH_dr _ _ _ _ _
        have Jdi : J.2.2 di = some (.inr (1, arL 400 (lsF fd L'))) := by rw [hJ]; exact rH_di _ _ _ d5
        have Jd := (Ja 1 (by omega) (by omega) (by omega) (by omega)).trans hd
        have J8 := (Ja 8 (by omega) (by omega) (by omega) (by omega)).trans h8
        rw [← hJ] at p1
        clear hJ
        have q1 : ax_pf (ax_set J 8 (rwO 9 0)) (some 1) 8 7 (ax_I (-1)) = some (ax_set (ax_set J 8 (rwO 9 0)) 1 (dkO o dr (-1))) := pl_pf ((pl_ne (by decide)).trans Jd) (Nat.le_of_ble_eq_true rfl)
        have Jdr' : (ax_set (ax_set J 8 (rwO 9 0)) 1 (dkO o dr (-1))).2.2 dr = some (rwO di (Int32.ofInt L'.length)) := by rw [pl_ne (by omega), pl_ne (by omega), Jdr]
        have q2 : ax_F (m + 81) 100 [ax_A (some 1)] (ax_set (ax_set J 8 (rwO 9 0)) 1 (dkO o dr (-1))) = some (.inl (some (ax_I (Int32.ofInt L'.length))), ax_set (ax_set (ax_set J 8 (rwO 9 0)) 1 (dkO o dr (-1))) 1 (dkO dr o (-1))) := Desk_showDraft_e pl_set Jdr' (by omega)
        rw [pl_gr Jd (v := some 8) rfl, Option.bind_some, pl_on J8, pl_ci (Row_clr J8), show (ax_set J 8 (.inl (2, [ax_A (some 9), ax_I 0]))) = ax_set J 8 (rwO 9 0) from rfl, q1, Option.bind_some, pl_on (show (ax_set (ax_set J 8 (rwO 9 0)) 1 (dkO o dr (-1))).2.2 1 = some (dkO o dr (-1)) from pl_set), pl_ci q2, ax_set_set] at p1
        refine ⟨ax_set (ax_set J 8 (rwO 9 0)) 1 (dkO dr o (-1)), lsF fd L', fs', p1, J1, J2, pl_set, ?_, ?_, ?_, fun j hj => if_pos hj, ?_, fun a a1 a2 a3 a4 a5 a6 => ?_⟩
        · rw [pl_ne (by decide), pl_set]
        · rw [pl_ne (by omega), pl_ne (by omega), Jdr]
        · rw [pl_ne (by omega), pl_ne (by omega), Jdi]
        · rw [pl_ne (by omega), pl_ne (by omega), J23]
        · rw [pl_ne a2, pl_ne a3, Ja a a1 a4 a5 a6]
    intro eq
    rw [if_pos eq] at pre
    unfold deK at pre
    have E0 : E = N := by rw [hE, eq]; exact if_pos (by omega)
    rw [if_neg (show ¬ Int32.ofInt 1 = 0 from by decide), pl_gr Hd (v := some dr) rfl, Option.bind_some, pl_on Hdr, pl_ci (Row_clr Hdr)] at pre
    obtain ⟨H3, hH3⟩ : ∃ H3, H3 = ax_set H dr (rwO di 0) := ⟨_, rfl⟩
    rw [show (ax_set H dr (.inl (2, [ax_A (some di), ax_I 0]))) = ax_set H dr (rwO di 0) from rfl, ← hH3] at pre
    have e31 : H3.1 = h.1 + 2 := by rw [hH3]; exact H1
    have e32 : H3.2.1 = h.2.1 + 6 := by rw [hH3]; exact H2
    have e3a : ∀ a, a ≠ dr → H3.2.2 a = H.2.2 a := fun a q => by rw [hH3]; exact pl_ne q
    have e3d : H3.2.2 dr = some (rwO di 0) := by rw [hH3]; exact pl_set
    rw [ax_new_e (show H3.1 + 1 ≤ _ by omega) (show H3.2.1 + 6 ≤ _ by omega)] at pre
    have n1 : ∀ {fs : List ax_T}, (hN H3 6 (.inl (1, fs))).2.2 1 = some (dkO o dr p) := fun {fs} => (hN_ne (show 1 ≠ H3.1 + 1 by omega)).trans ((e3a 1 (by omega)).trans Hd)
    rw [show ([ax_A none, ax_A none, ax_A none, ax_A none, ax_A none, ax_A none] : List ax_T).length = 6 from rfl, pl_gr n1 (k := 6) (v := some dr) rfl, Option.bind_some, pl_gr n1 (k := 4) (v := some 23) rfl, Option.bind_some] at pre
    have ri := Resolver_init_e (m := m + 79) (a := H3.1 + 1) (x1 := some (h.1 + 1)) (x2 := some sw) (x3 := some sd) (x4 := some dr) (x5 := some 23) (h := hN H3 6 (.inl (1, [ax_A none, ax_A none, ax_A none, ax_A none, ax_A none, ax_A none]))) (w0 := ax_A none) (w1 := ax_A none) (w2 := ax_A none) (w3 := ax_A none) (w4 := ax_A none) (w5 := ax_A none) (hN_at rfl) (Nat.le_refl _) (show H3.1 + 1 + 1 ≤ _ by omega) (show H3.2.1 + 6 + 3 ≤ _ by omega)
    rw [hN_set rfl] at ri
    obtain ⟨G, hG⟩ : ∃ G, G = hN (hN H3 6 (.inl (1, [ax_A (some (h.1 + 1)), ax_A (some (h.1 + 4)), ax_A (some sw), ax_A (some sd), ax_A (some dr), ax_A (some 23)]))) 3 (srO (h.1 + 1) sw 0) := ⟨_, rfl⟩
    have ri2 : ax_F (m + 80 + 1) 123 [ax_A (some (H3.1 + 1)), ax_A (some (h.1 + 1)), ax_A (some sw), ax_A (some sd), ax_A (some dr), ax_A (some 23)] (hN H3 6 (.inl (1, [ax_A none, ax_A none, ax_A none, ax_A none, ax_A none, ax_A none]))) = some (.inl none, G) := by
      refine ri.trans ?_
      rw [hG, show (hN H3 6 (.inl (1, [ax_A none, ax_A none, ax_A none, ax_A none, ax_A none, ax_A none]))).1 + 1 = h.1 + 4 from by show H3.1 + 1 + 1 = _; omega]
      rfl
    rw [pl_cv ri2, show H3.1 + 1 = h.1 + 3 by omega] at pre
    have G1 : G.1 = h.1 + 4 := by rw [hG]; show H3.1 + 1 + 1 = _; omega
    have G2 : G.2.1 = h.2.1 + 15 := by rw [hG]; show H3.2.1 + 6 + 3 = _; omega
    have Gs : G.2.2 (h.1 + 4) = some (srO (h.1 + 1) sw 0) := by rw [hG]; exact hN_at (show h.1 + 4 = H3.1 + 1 + 1 by omega)
    have Gr : G.2.2 (h.1 + 3) = some (.inl (1, [ax_A (some (h.1 + 1)), ax_A (some (h.1 + 4)), ax_A (some sw), ax_A (some sd), ax_A (some dr), ax_A (some 23)])) := by rw [hG]; exact (hN_ne (show h.1 + 3 ≠ H3.1 + 1 + 1 by omega)).trans (hN_at (by omega))
    have Go : ∀ a, a ≤ h.1 + 2 → G.2.2 a = H3.2.2 a := fun a q => by rw [hG]; exact (hN_ne (show a ≠ H3.1 + 1 + 1 by omega)).trans (hN_ne (by omega))
    have Gk : ∀ a, a ≤ h.1 → a ≠ dr → G.2.2 a = h.2.2 a := fun a q1 q2 => by rw [Go a (by omega), e3a a q2, Ha a q1]
    have Gcu : G.2.2 (h.1 + 1) = some (curO N E) := by rw [Go _ (by omega), e3a _ (by omega), Hcu]
    have Gdr : G.2.2 dr = some (rwO di 0) := by rw [Go dr (by omega), e3d]
    have R : rvX G (h.1 + 3) (h.1 + 1) (h.1 + 4) sw sd dr di N lw lr d c b we wn wu re rn ru := ⟨Gr, by omega, by omega, by omega, by omega, by omega, d5, by omega, by omega, by omega, by omega, ⟨by omega, by omega, by omega, w7, n64, B, fb, (Gk 9 (by omega) (by omega)).trans h9, hb⟩, verX_k2 VW (by omega) (fun a a1 a2 => Gk a (by omega) (by omega)), verX_k2 VR (by omega) (fun a a1 a2 => Gk a (by omega) (by omega)), by omega, by omega⟩
    have rs := Rv_whole (m := m + 1) (f0 := fd) (q := E) (x := 0) (fs := f23) R (by rw [eq]; omega)
    rw [dH_id Gcu Gs Gdr ((Gk di (by omega) (by omega)).trans hdi) ((Gk 23 (by omega) (by omega)).trans h23) d5] at rs
    obtain ⟨q', x2, L', fs', r1, r2, r3, r4⟩ := rs
    refine ⟨G, q', x2, L', fs', ?_, fun ok => ?_, r2, G1, G2, fun a q1 q2 q3 => Gk a q1 q2⟩
    · refine pre.trans ?_
      rw [pl_on Gr, pl_ci (show ax_F (m + 80 + 1) 124 [ax_A (some (h.1 + 3))] G = _ from r1)]
      cases okL (rsv c d b 13 6 6 0 0 0) [] with
      | false => rw [if_pos (show Int32.ofInt (bI false) = 0 from rfl), if_neg (by decide)]
      | true => rw [if_neg (show ¬ Int32.ofInt (bI true) = 0 from by decide), if_pos rfl]
    · obtain ⟨⟨k, k1, k2⟩, -⟩ := r3 ok
      rw [k1, k2, List.nil_append]
