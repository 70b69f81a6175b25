/-- the text and the stream as functions on places -/
def txV (tx : List Int32) (p : Int) : Int := if 0 ≤ p ∧ p < tx.length then (tx.getD p.toNat 0).toInt else 0
def stB (st : List Int32) (p : Int) : Int := if 0 ≤ p ∧ p < st.length then (st.getD p.toNat 0).toInt else -1
/-- a subject and its versions, on both sides -/
def vrs (h : ax_Hp) (s : mS) (i cnt : Nat) (mode : Int) (ad ln : Nat → Nat) (cs : Nat → Int → Int) (ve vn vu : Nat → Nat → Int) : Prop := sbX h i cnt mode ad ∧ 0 ≤ mode ∧ mode ≤ 6 ∧ s.2.2.1 10 i = mode ∧ s.2.2.1 11 i = cnt ∧ ∀ j, j < cnt → verX h (ad j) (ln j) (cs j) (ve j) (vn j) (vu j) ∧ veT s (6 * (i : Int) + j) (ln j) (cs j)
def vrA (h : ax_Hp) (s : mS) : Prop := ∀ i, i < 4 → ∃ (cnt : Nat) (mode : Int) (ad ln : Nat → Nat) (cs : Nat → Int → Int) (ve vn vu : Nat → Nat → Int), vrs h s i cnt mode ad ln cs ve vn vu
/-- the draft: some row -/
def drJ (h : ax_Hp) (dr di : Nat) : Prop := ∃ (nd : Int32) (fd : Nat → Int), h.2.2 dr = some (rwO di nd) ∧ h.2.2 di = some (.inr (1, arL 400 fd))
theorem drJ_kept {h h' : ax_Hp} {dr di : Nat} (D : drJ h dr di) (e1 : h'.2.2 dr = h.2.2 dr) (e2 : h'.2.2 di = h.2.2 di) : drJ h' dr di := by
  obtain ⟨nd, fd, d1, d2⟩ := D
  exact ⟨nd, fd, e1.trans d1, e2.trans d2⟩
theorem rowJ_dr {h : ax_Hp} {a b : Nat} {xs : List Int32} (R : rowJ h a b 400 xs) : drJ h a b := by
  obtain ⟨-, -, f, r1, r2, -⟩ := rowJ_un R
  exact ⟨_, f, r1, r2⟩
/-- the desk, but for its subjects -/
def dkJ (h : ax_Hp) (o oi dr di : Nat) (p : Int) (tx st ys : List Int32) : Prop := odX o oi dr di ∧ h.2.2 1 = some (dkO o dr (Int32.ofInt p)) ∧ rowJ h 2 3 160 tx ∧ rowJ h 8 9 64 st ∧ rowJ h o oi 400 ys ∧ drJ h dr di ∧ h.2.2 14 = some (.inr (5, sjs)) ∧ h.2.2 4 = some (.inl (3, [ax_A (some 2), ax_A (some 5), ax_A (some 6), ax_A (some 7)])) ∧ mk3 h ∧ (∃ f, h.2.2 23 = some (.inr (1, arL 160 f))) ∧ (∃ w, h.2.2 59 = some (.inr (2, [w]))) ∧ 59 ≤ h.1
/-- the reference, but for its versions -/
def mdJ (s : mS) (tx st ys : List Int32) : Prop := mB s ∧ tyT s tx.length (txV tx) ∧ isS s st.length (stB st) ∧ s.1 5 = ys.length ∧ ys.length ≤ 400 ∧ (∀ j, j < ys.length → Int32.ofInt (s.2.2.1 6 j) = ys.getD j 0) ∧ (∀ c ∈ tx, 32 ≤ c.toInt ∧ c.toInt ≤ 126) ∧ (∀ c ∈ st, 0 ≤ c.toInt ∧ c.toInt ≤ 255)
/-- after t calls -/
def INV (xs : List Int32) (t : Nat) (h : ax_Hp) (s : mS) : Prop := h = mH h s ∧ scI xs h ∧ (∃ (o oi dr di : Nat) (tx st ys : List Int32), dkJ h o oi dr di (s.1 9) tx st ys ∧ mdJ s tx st ys) ∧ vrA h s ∧ h.1 ≤ 59 + 11 * t ∧ h.2.1 ≤ 9731 + 700 * t
theorem od_b {o oi dr di : Nat} (O : odX o oi dr di) : 10 ≤ o ∧ o ≤ 13 ∧ 10 ≤ oi ∧ oi ≤ 13 ∧ 10 ≤ dr ∧ dr ≤ 13 ∧ 10 ≤ di ∧ di ≤ 13 ∧ o ≠ oi ∧ dr ≠ di ∧ o ≠ dr ∧ o ≠ di ∧ oi ≠ dr ∧ oi ≠ di := by rcases O with ⟨a, b, c, d⟩ | ⟨a, b, c, d⟩ <;> omega
theorem mk3_kept {h h' : ax_Hp} (M : mk3 h) (e : ∀ a, 5 ≤ a → a ≤ 7 → h'.2.2 a = h.2.2 a) : mk3 h' := by
  obtain ⟨a, b, c, m1, m2, m3⟩ := M
  exact ⟨a, b, c, (e 5 (by omega) (by omega)).trans m1, (e 6 (by omega) (by omega)).trans m2, (e 7 (by omega) (by omega)).trans m3⟩
theorem dkJ_kept {h h' : ax_Hp} {o oi dr di : Nat} {p : Int} {tx st ys : List Int32} (D : dkJ h o oi dr di p tx st ys) (e : ∀ a, a < 24 ∨ a = 59 → h'.2.2 a = h.2.2 a) (hl : h.1 ≤ h'.1) : dkJ h' o oi dr di p tx st ys := by
  obtain ⟨O, d1, d2, d3, d4, d5, d6, d7, d8, ⟨f, d9⟩, ⟨w, d10⟩, d11⟩ := D
  have ob := od_b O
  exact ⟨O, (e 1 (by omega)).trans d1, rowJ_kept d2 (e 2 (by omega)) (e 3 (by omega)), rowJ_kept d3 (e 8 (by omega)) (e 9 (by omega)), rowJ_kept d4 (e o (by omega)) (e oi (by omega)), drJ_kept d5 (e dr (by omega)) (e di (by omega)), (e 14 (by omega)).trans d6, (e 4 (by omega)).trans d7, mk3_kept d8 (fun a a1 a2 => e a (by omega)), ⟨f, (e 23 (by omega)).trans d9⟩, ⟨w, (e 59 (by omega)).trans d10⟩, by omega⟩
theorem veT_kept {s s' : mS} {w n : Int} {c : Int → Int} (V : veT s w n c) (k12 : s'.2.2.1 12 = s.2.2.1 12) (k13 : s'.2.2.1 13 = s.2.2.1 13) : veT s' w n c := by
  unfold veT at *
  rw [k12, k13]
  exact V
theorem vrA_kept {h h' : ax_Hp} {s s' : mS} (V : vrA h s) (e : ∀ a, 15 ≤ a → a ≤ 22 → h'.2.2 a = h.2.2 a) (hl : h.1 ≤ h'.1) (e2 : ∀ a, 60 ≤ a → a ≤ h.1 → h'.2.2 a = h.2.2 a) (k : ∀ k, k = 10 ∨ k = 11 ∨ k = 12 ∨ k = 13 → s'.2.2.1 k = s.2.2.1 k) : vrA h' s' := fun i hi => by
  obtain ⟨cnt, mode, ad, ln, cs, ve, vn, vu, v1, v2, v3, v4, v5, v6⟩ := V i hi
  refine ⟨cnt, mode, ad, ln, cs, ve, vn, vu, sbX_kept v1 (e _ (by omega) (by omega)) (e _ (by omega) (by omega)), v2, v3, by rw [k 10 (by omega)]; exact v4, by rw [k 11 (by omega)]; exact v5, fun j hj => ?_⟩
  obtain ⟨w1, w2⟩ := v6 j hj
  exact ⟨verX_kept w1 hl e2, veT_kept w2 (k 12 (by omega)) (k 13 (by omega))⟩
theorem mB_kept {s s' : mS} (B : mB s) (h7 : 0 ≤ s'.1 7 ∧ s'.1 7 ≤ 1000000) (k : ∀ k, k = 2 ∨ k = 11 ∨ k = 12 → s'.2.2.1 k = s.2.2.1 k) : mB s' := by
  unfold mB at *
  rw [k 2 (by omega), k 11 (by omega), k 12 (by omega)]
  exact ⟨h7, B.2⟩
theorem mdJ_kept {s s' : mS} {tx st ys : List Int32} (M : mdJ s tx st ys) (h7 : 0 ≤ s'.1 7 ∧ s'.1 7 ≤ 1000000) (h1 : s'.1 1 = s.1 1) (h3 : s'.1 3 = s.1 3) (h5 : s'.1 5 = s.1 5) (k : ∀ k, k = 2 ∨ k = 4 ∨ k = 6 ∨ k = 11 ∨ k = 12 → s'.2.2.1 k = s.2.2.1 k) : mdJ s' tx st ys := by
  obtain ⟨m1, m2, m3, m4, m5, m6, m7⟩ := M
  refine ⟨mB_kept m1 h7 (fun j hj => k j (by omega)), ?_, ?_, h5.trans m4, m5, fun j hj => by rw [k 6 (by omega)]; exact m6 j hj, m7⟩
  · unfold tyT at *
    rw [h1, k 2 (by omega)]
    exact m2
  · unfold isS at *
    rw [h3, k 4 (by omega)]
    exact m3
theorem INV_mk {xs : List Int32} {t o oi dr di : Nat} {h : ax_Hp} {s : mS} {tx st ys : List Int32} (hs : scI xs h) (D : dkJ h o oi dr di (s.1 9) tx st ys) (M : mdJ s tx st ys) (V : vrA h s) (h1 : h.1 ≤ 59 + 11 * t) (h2 : h.2.1 ≤ 9731 + 700 * t) : INV xs t (mH h s) s := by
  have e : ∀ a, a < 24 ∨ 58 < a → (mH h s).2.2 a = h.2.2 a := fun a ha => mH_o h s ha
  exact ⟨(mH_H h s s).symm, scI_mH hs, ⟨o, oi, dr, di, tx, st, ys, dkJ_kept D (fun a ha => e a (by omega)) (Nat.le_refl _), M⟩, vrA_kept V (fun a a1 a2 => e a (by omega)) (Nat.le_refl _) (fun a a1 a2 => e a (by omega)) (fun _ _ => rfl), h1, h2⟩
theorem txV_nil (p : Int) : txV [] p = 0 := if_neg (by rw [List.length_nil]; omega)
theorem stB_nil (p : Int) : stB [] p = -1 := if_neg (by rw [List.length_nil]; omega)
theorem tyT_nil {s : mS} (h : s.1 1 = 0) : tyT s ([] : List Int32).length (txV []) := ⟨h, by rw [List.length_nil]; omega, by rw [List.length_nil]; omega, fun p a b => by rw [List.length_nil] at b; omega, fun p _ => txV_nil p, fun p => by rw [txV_nil]; omega⟩
theorem isS_nil {s : mS} (h : s.1 3 = 0) : isS s ([] : List Int32).length (stB []) := ⟨h, by rw [List.length_nil]; omega, ⟨fun i a b => by rw [List.length_nil] at b; omega, fun i _ => stB_nil i⟩, fun p a b => by rw [List.length_nil] at b; omega⟩
theorem rowJ_nil {h : ax_Hp} {a b cap : Nat} {f : Nat → Int} (h1 : h.2.2 a = some (rwO b 0)) (h2 : h.2.2 b = some (.inr (1, arL cap f))) (hc : cap ≤ 1000000) (hab : a ≠ b) : rowJ h a b cap [] := rowJ_mk (n := 0) h1 h2 (by omega) hc hab rfl (fun j hj => by omega)
theorem rep_arL (n : Nat) : (List.replicate n (ax_I 0)) = arL n (fun _ => 0) := (arL_0 n).symm
/-- the start -/
theorem INV_start (xs : List Int32) : INV xs 0 (ax_ls 9731 ax_L0 (some (.inr (0, xs.map ax_I)))) s0 := by
  obtain ⟨h, hh⟩ : ∃ h, h = ax_ls 9731 ax_L0 (some (.inr (0, xs.map ax_I))) := ⟨_, rfl⟩
  have L : ∀ (k : Nat) (o : ax_Ob), ax_L0[k]? = some o → h.2.2 (k + 1) = some o := fun k o e => by rw [hh]; exact (ls_at k).trans e
  have ar : ∀ (k n : Nat), ax_L0[k]? = some (.inr (1, List.replicate n (ax_I 0))) → h.2.2 (k + 1) = some (.inr (1, arL n (fun _ => 0))) := fun k n e => by rw [L k _ e, rep_arL]
  rw [← hh]
  refine ⟨by rw [hh]; exact s0_start _, by rw [hh]; rfl, ⟨10, 11, 12, 13, [], [], [], ⟨Or.inl ⟨rfl, rfl, rfl, rfl⟩, L 0 _ rfl, rowJ_nil (L 1 _ rfl) (ar 2 160 rfl) (by omega) (by omega), rowJ_nil (L 7 _ rfl) (ar 8 64 rfl) (by omega) (by omega), rowJ_nil (L 9 _ rfl) (ar 10 400 rfl) (by omega) (by omega), ⟨_, _, L 11 _ rfl, ar 12 400 rfl⟩, L 13 _ rfl, L 3 _ rfl, ⟨_, _, _, ar 4 160 rfl, ar 5 160 rfl, ar 6 160 rfl⟩, ⟨_, ar 22 160 rfl⟩, ⟨_, L 58 _ rfl⟩, by rw [hh]; exact Nat.le_refl 59⟩, ⟨⟨⟨by show (0 : Int) ≤ 0; omega, by show (0 : Int) ≤ 1000000; omega⟩, fun i => ⟨by show (0 : Int) ≤ 0; omega, by show (0 : Int) ≤ 6; omega⟩, fun i => ⟨by show (0 : Int) ≤ 0; omega, by show (0 : Int) < 65536; omega⟩, fun i => ⟨by show (0 : Int) ≤ 0; omega, by show (0 : Int) < 65536; omega⟩⟩, tyT_nil rfl, isS_nil rfl, rfl, by rw [List.length_nil]; omega, fun j hj => absurd hj (Nat.not_lt_zero _), fun c hc => absurd hc List.not_mem_nil, fun c hc => absurd hc List.not_mem_nil⟩⟩, fun i hi => ?_, by rw [hh]; exact Nat.le_refl 59, by rw [hh]; exact Nat.le_refl 9731⟩
  refine ⟨0, 0, fun _ => 0, fun _ => 0, fun _ _ => 0, fun _ _ => 0, fun _ _ => 0, fun _ _ => 0, ?_, by omega, by omega, rfl, rfl, fun j hj => absurd hj (Nat.not_lt_zero _)⟩
  have : i = 0 ∨ i = 1 ∨ i = 2 ∨ i = 3 := by omega
  rcases this with e | e | e | e <;> subst e
  · exact ⟨L 14 _ rfl, L 15 _ rfl, by omega⟩
  · exact ⟨L 16 _ rfl, L 17 _ rfl, by omega⟩
  · exact ⟨L 18 _ rfl, L 19 _ rfl, by omega⟩
  · exact ⟨L 20 _ rfl, L 21 _ rfl, by omega⟩
