/-- the candidate's marks are some marks -/
def mk3 (h : ax_Hp) : Prop := ∃ a b c : Nat → Int, h.2.2 5 = some (.inr (1, arL 160 a)) ∧ h.2.2 6 = some (.inr (1, arL 160 b)) ∧ h.2.2 7 = some (.inr (1, arL 160 c))
theorem sbX_kept {h h' : ax_Hp} {i cnt : Nat} {mode : Int} {ad : Nat → Nat} (S : sbX h i cnt mode ad) (e1 : h'.2.2 (15 + 2 * i) = h.2.2 (15 + 2 * i)) (e2 : h'.2.2 (16 + 2 * i) = h.2.2 (16 + 2 * i)) : sbX h' i cnt mode ad := ⟨e1.trans S.1, e2.trans S.2.1, S.2.2⟩
set_option maxHeartbeats 4000000 in
/-- the class registers as the text says -/
theorem Desk_register_y {m o dr n i cnt : Nat} {z p : Int32} {h : ax_Hp} {mode : Int} {ad ln : Nat → Nat} {cs : Nat → Int → Int} {v : Int → Int} {ve vn vu : Nat → Nat → Int} {f f5 f6 f7 : Nat → Int} (hl : 59 ≤ h.1) (hd : h.2.2 1 = some (dkO o dr p)) (hj : h.2.2 14 = some (.inr (5, sjs))) (hz : isSub z = true) (hi : i = z.toNatClampNeg) (hi3 : i ≤ 3) (h4 : h.2.2 4 = some (.inl (3, [ax_A (some 2), ax_A (some 5), ax_A (some 6), ax_A (some 7)]))) (ht : h.2.2 2 = some (rwO 3 (Int32.ofInt n))) (hti : h.2.2 3 = some (.inr (1, arL 160 f))) (h5 : h.2.2 5 = some (.inr (1, arL 160 f5))) (h6 : h.2.2 6 = some (.inr (1, arL 160 f6))) (h7 : h.2.2 7 = some (.inr (1, arL 160 f7))) (hn : n ≤ 160) (hf : ∀ q : Int, 0 ≤ q → q < n → f q.toNat = v q ∧ 1 ≤ v q ∧ v q < 128) (hv0 : ∀ q : Int, (n : Int) ≤ q → v q = 0) (hv1 : ∀ q : Int, 0 ≤ v q ∧ v q < 128) (S : sbX h i cnt mode ad) (m0 : 0 ≤ mode) (m1 : mode ≤ 6) (V : ∀ j, j < cnt → verX h (ad j) (ln j) (cs j) (ve j) (vn j) (vu j)) (k : Nat) (K : fstP (fun j => teq (ln j) (cs j) n v) cnt k) (hc : h.1 + 11 ≤ ax_CM) (hs : h.2.1 + 700 ≤ ax_SM) :
    (spTy v 6 0 ≠ n → ∃ h', ax_F (m + 34) 19 [ax_A (some 1), ax_I z] h = some (.inr (0, h.1 + 6), h') ∧ h'.1 = h.1 + 6 ∧ h'.2.1 = h.2.1 + 18 ∧ h'.2.2 1 = some (dkO o dr (Int32.ofInt (if 0 ≤ spTy v 6 0 then spTy v 6 0 else -1 - spTy v 6 0))) ∧ mk3 h' ∧ ∀ a, a ≤ h.1 → a ≠ 1 → a ≠ 5 → a ≠ 6 → a ≠ 7 → h'.2.2 a = h.2.2 a) ∧
    (spTy v 6 0 = n → k < cnt → ∃ h', ax_F (m + 34) 19 [ax_A (some 1), ax_I z] h = some (.inl (some (ax_I (Int32.ofInt k))), h') ∧ h'.1 = h.1 + 5 ∧ h'.2.1 = h.2.1 + 12 ∧ h'.2.2 1 = some (dkO o dr (-1)) ∧ h'.2.2 2 = some (rwO 3 0) ∧ mk3 h' ∧ ∀ a, a ≤ h.1 → a ≠ 1 → a ≠ 2 → a ≠ 5 → a ≠ 6 → a ≠ 7 → h'.2.2 a = h.2.2 a) ∧
    (spTy v 6 0 = n → ¬ k < cnt → adm cnt mode (fun j => gon (md3 mode) (crd v (cs j) 13 6 6 0 0) (crd (cs j) v 13 6 6 0 0)) = false → ∃ h', ax_F (m + 34) 19 [ax_A (some 1), ax_I z] h = some (.inr (1, h.1 + 6), h') ∧ h'.1 = h.1 + 6 ∧ h'.2.1 = h.2.1 + 18 ∧ mk3 h' ∧ ∀ a, a ≤ h.1 → a ≠ 5 → a ≠ 6 → a ≠ 7 → h'.2.2 a = h.2.2 a) ∧
    (spTy v 6 0 = n → ¬ k < cnt → adm cnt mode (fun j => gon (md3 mode) (crd v (cs j) 13 6 6 0 0) (crd (cs j) v 13 6 6 0 0)) = true → ∃ (h' : ax_Hp) (sc : Nat) (fe fn fu : Nat → Int), ax_F (m + 34) 19 [ax_A (some 1), ax_I z] h = some (.inl (some (ax_I (Int32.ofInt cnt))), h') ∧ h'.1 = h.1 + 11 ∧ h'.2.1 = h.2.1 + (18 + 4 * n) ∧ h'.2.2 1 = some (dkO o dr (-1)) ∧ h'.2.2 2 = some (rwO 3 0) ∧ mk3 h' ∧ verX h' sc n v fe fn fu ∧ sbX h' i (cnt + 1) mode (fun v => if v = cnt then sc else ad v) ∧ ∀ a, a ≤ h.1 → a ≠ 1 → a ≠ 2 → a ≠ 5 → a ≠ 6 → a ≠ 7 → a ≠ 15 + 2 * i → a ≠ 16 + 2 * i → h'.2.2 a = h.2.2 a) := by
  obtain ⟨H, fe, fn, fu, x, r1, n1, n2, Ho, m5, m6, m7, hcu, gd⟩ := Desk_reg_read (m := m) (v := v) (n := n) hl h4 ht hti h5 h6 h7 hn hf hv0 hv1
  have pre := Desk_register_pre (m := m + 30) hd hj hz ht hl (by omega) (by omega)
  rw [← hi, pl_ci (show ax_F (m + 30 + 3) 23 [ax_A (some (h.1 + 2))] (regH h (Int32.ofInt n)) = _ from r1)] at pre
  have Hd := (Ho 1 (by omega) (by decide) (by decide) (by decide)).trans hd
  have Ht := (Ho 2 (by omega) (by decide) (by decide) (by decide)).trans ht
  have H4 := (Ho 4 (by omega) (by decide) (by decide) (by decide)).trans h4
  have pf1 : ∀ (G : ax_Hp) (q : Int32), G.2.2 1 = some (dkO o dr p) → ax_pf G (some 1) 8 7 (ax_I q) = some (ax_set G 1 (dkO o dr q)) := fun G q e => pl_pf e (Nat.le_of_ble_eq_true rfl)
  have mkH : mk3 H := ⟨fe, fn, fu, m5, m6, m7⟩
  have mkk : ∀ {G G' : ax_Hp}, mk3 G → G'.2.2 5 = G.2.2 5 → G'.2.2 6 = G.2.2 6 → G'.2.2 7 = G.2.2 7 → mk3 G' := fun {G G'} q a b d => by
    obtain ⟨x, y, w, q1, q2, q3⟩ := q
    exact ⟨x, y, w, a.trans q1, b.trans q2, d.trans q3⟩
  refine ⟨fun no => ?_, (fun (M : spTy v 6 0 = n → (k < cnt → _) ∧ (¬ k < cnt → (_ → _) ∧ (_ → _))) => ⟨fun ok lt => (M ok).1 lt, fun ok ge no => ((M ok).2 ge).1 no, fun ok ge yes => ((M ok).2 ge).2 yes⟩) (fun ok => ?_)⟩
  · rw [if_neg no, if_pos (show Int32.ofInt 0 = 0 from rfl), pl_on hcu, pl_ci (Cu_at' hcu), pf1 H _ Hd, Option.bind_some] at pre
    generalize hq : Int32.ofInt (if 0 ≤ spTy v 6 0 then spTy v 6 0 else -1 - spTy v 6 0) = q at *
    rw [ax_th_e (h := ax_set H 1 (dkO o dr q)) (show H.1 + 1 ≤ _ by omega) (show H.2.1 + 6 ≤ _ by omega), show (ax_set H 1 (dkO o dr q)).1 + 1 = h.1 + 6 from by show H.1 + 1 = _; omega] at pre
    have Z : ∀ a, a ≤ h.1 → (thr (ax_set H 1 (dkO o dr q))).2.2 a = (ax_set H 1 (dkO o dr q)).2.2 a := fun a ha => thr_at (by show a ≤ H.1; omega)
    refine ⟨_, pre, by show H.1 + 1 = _; omega, by show H.2.1 + 6 = _; omega, by rw [Z 1 (by omega), pl_set], mkk mkH (by rw [Z 5 (by omega), pl_ne (by decide)]) (by rw [Z 6 (by omega), pl_ne (by decide)]) (by rw [Z 7 (by omega), pl_ne (by decide)]), fun a a1 a2 a3 a4 a5 => by rw [Z a a1, pl_ne a2, Ho a a1 a3 a4 a5]⟩
  have G := gd ok
  have C : cdX H n v fe fn fu := ⟨f, H4, Ht, (Ho 3 (by omega) (by decide) (by decide) (by decide)).trans hti, m5, m6, m7, hn, fun q q0 q1 => (hf q q0 q1).1, hv0, hv1⟩
  have S' : sbX H i cnt mode ad := sbX_kept S (Ho _ (by omega) (by omega) (by omega) (by omega)) (Ho _ (by omega) (by omega) (by omega) (by omega))
  have V' : ∀ j, j < cnt → verX H (ad j) (ln j) (cs j) (ve j) (vn j) (vu j) := fun j hj => verX_kept (V j hj) (by omega) (fun a a1 a2 => Ho a a2 (by omega) (by omega) (by omega))
  have c6 := S.2.2
  have K1 := K.1
  rw [if_pos ok, if_neg (show ¬ Int32.ofInt 1 = 0 from by decide), pl_gr Hd (v := some 4) rfl, Option.bind_some, pl_on S'.1, pl_ci (show ax_F (m + 30 + 3) 66 [ax_A (some (15 + 2 * i)), ax_A (some 4)] H = _ from Sb_num (m := m + 29) S' V' C K)] at pre
  refine ⟨fun lt => ?_, fun ge => ?_⟩
  · rw [if_pos lt, if_neg (show ¬ Int32.ofInt k = -1 from by rw [show (-1 : Int32) = Int32.ofInt (-1) from rfl, zi_eq (by omega) (by omega) (by omega) (by omega)]; omega), pl_gr Hd (v := some 2) rfl, Option.bind_some, pl_on Ht, pl_ci (Row_clr Ht), pf1 _ _ ((pl_ne (by decide)).trans Hd), Option.bind_some] at pre
    refine ⟨_, pre, n1, n2, pl_set, ?_, mkk mkH (by rw [pl_ne (by decide), pl_ne (by decide)]) (by rw [pl_ne (by decide), pl_ne (by decide)]) (by rw [pl_ne (by decide), pl_ne (by decide)]), fun a a1 a2 a3 a4 a5 a6 => by rw [pl_ne a2, pl_ne a3, Ho a a1 a4 a5 a6]⟩
    rw [pl_ne (by decide), pl_set]
    rfl
  have ad1 := Sb_adm (m := m + 1) S' m0 m1 V' C G
  have lt6 : adm cnt mode (fun j => gon (md3 mode) (crd v (cs j) 13 6 6 0 0) (crd (cs j) v 13 6 6 0 0)) = true → cnt < 6 := fun yes => by
    unfold adm at yes
    rw [Bool.and_eq_true] at yes
    exact of_decide_eq_true yes.1
  generalize (adm cnt mode (fun j => gon (md3 mode) (crd v (cs j) 13 6 6 0 0) (crd (cs j) v 13 6 6 0 0))) = A at *
  rw [if_neg ge, if_pos (show Int32.ofInt (-1) = -1 from rfl), pl_gr Hd (v := some 4) rfl, Option.bind_some, pl_on S'.1, pl_ci (show ax_F (m + 30 + 3) 69 [ax_A (some (15 + 2 * i)), ax_A (some 4)] H = _ from ad1)] at pre
  refine ⟨fun no => ?_, fun yes => ?_⟩
  · rw [no, if_pos (show Int32.ofInt (bI false) = 0 from rfl), ax_th_e (show H.1 + 1 ≤ _ by omega) (show H.2.1 + 6 ≤ _ by omega), show H.1 + 1 = h.1 + 6 by omega] at pre
    have Z : ∀ a, a ≤ h.1 → (thr H).2.2 a = H.2.2 a := fun a ha => thr_at (by omega)
    exact ⟨_, pre, by show H.1 + 1 = _; omega, by show H.2.1 + 6 = _; omega, mkk mkH (Z 5 (by omega)) (Z 6 (by omega)) (Z 7 (by omega)), fun a a1 a2 a3 a4 => by rw [Z a a1, Ho a a1 a2 a3 a4]⟩
  · have lt6 := lt6 yes
    obtain ⟨H', c1, c2, c3, c4, c5⟩ := Sc_copyN (m := m + 30) C G (by omega) (by omega) (by omega)
    have S2 : sbX H' i cnt mode ad := sbX_kept S' (c4 _ (by omega)) (c4 _ (by omega))
    have a2 := Sb_add (m := m + 32) S2 lt6 c5.1
    rw [yes, if_neg (show ¬ Int32.ofInt (bI true) = 0 from by decide), pl_gr Hd (v := some 4) rfl, Option.bind_some, pl_on H4, pl_cr (show ax_F (m + 30 + 3) 84 [ax_A (some 4)] H = _ from c1), pl_on S2.1, pl_ci (show ax_F (m + 30 + 3) 88 [ax_A (some (15 + 2 * i)), ax_A (some (H.1 + 1))] H' = _ from a2)] at pre
    obtain ⟨H2, e2⟩ : ∃ H2, H2 = ax_set (ax_set H' (16 + 2 * i) (.inr (6, arS (cnt + 1) (fun v => if v = cnt then (H.1 + 1) else ad v)))) (15 + 2 * i) (sbO i (cnt + 1) mode) := ⟨_, rfl⟩
    rw [← e2] at pre
    have o2 : ∀ a, a ≠ 15 + 2 * i → a ≠ 16 + 2 * i → H2.2.2 a = H'.2.2 a := fun a q1 q2 => by rw [e2, pl_ne q1, pl_ne q2]
    have d2 : H2.2.2 1 = some (dkO o dr p) := (o2 1 (by omega) (by omega)).trans ((c4 1 (by omega)).trans Hd)
    have t2 : H2.2.2 2 = some (rwO 3 (Int32.ofInt n)) := (o2 2 (by omega) (by omega)).trans ((c4 2 (by omega)).trans Ht)
    rw [pl_gr d2 (v := some 2) rfl, Option.bind_some, pl_on t2, pl_ci (Row_clr t2), pf1 _ _ ((pl_ne (by decide)).trans d2), Option.bind_some] at pre
    have l2 : H2.1 = H'.1 := by rw [e2]; rfl
    have l3 : H2.2.1 = H'.2.1 := by rw [e2]; rfl
    refine ⟨_, H.1 + 1, fe, fn, fu, pre, by show H2.1 = _; omega, by show H2.2.1 = _; omega, pl_set, ?_, mkk mkH ?_ ?_ ?_, verX_kept c5 (by show H'.1 ≤ H2.1; omega) (fun a q1 q2 => ?_), ⟨?_, ?_, by omega⟩, fun a q1 q2 q3 q4 q5 q6 q7 q8 => ?_⟩
    · rw [pl_ne (by decide), pl_set]; rfl
    · rw [pl_ne (by decide), pl_ne (by decide), o2 5 (by omega) (by omega), c4 5 (by omega)]
    · rw [pl_ne (by decide), pl_ne (by decide), o2 6 (by omega) (by omega), c4 6 (by omega)]
    · rw [pl_ne (by decide), pl_ne (by decide), o2 7 (by omega) (by omega), c4 7 (by omega)]
    · rw [pl_ne (by omega), pl_ne (by omega), o2 a (by omega) (by omega)]
    · rw [pl_ne (by omega), pl_ne (by omega), e2, pl_set]; rfl
    · rw [pl_ne (by omega), pl_ne (by omega), e2, pl_ne (by omega), pl_set]
    · rw [pl_ne q2, pl_ne q3, o2 a q7 q8, c4 a (by omega), Ho a q1 q4 q5 q6]
