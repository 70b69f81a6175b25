/-- calls on a fresh desk: both answer alike -/
theorem rdI_0 (o a b c : Int32) : rdI [o, a, b, c] 0 o a b c := by
  intro g hg
  have e : ax_arr g (some 0) 0 = some [ax_I o, ax_I a, ax_I b, ax_I c] := pl_arr hg
  refine ⟨⟨4, ?_, by decide⟩, ?_, ?_, ?_, ?_⟩
  · unfold ax_len; rw [e]; rfl
  · unfold ax_ldi ax_ld; rw [e]; rfl
  · unfold ax_ldi ax_ld; rw [e]; rfl
  · unfold ax_ldi ax_ld; rw [e]; rfl
  · unfold ax_ldi ax_ld; rw [e]; rfl
theorem scI_mH {xs : List Int32} {h : ax_Hp} {s : mS} (e : scI xs h) : scI xs (mH h s) := (mH_o h s (Or.inl (by decide))).trans e
theorem obM_mH (h : ax_Hp) (s : mS) : obM (mH h s) := ⟨_, rfl⟩
theorem scI_thr {xs : List Int32} {h : ax_Hp} (e : scI xs h) : scI xs (thr h) := (thr_at (Nat.zero_le _)).trans e
theorem mF_0 (s : mS) : (mF s)[0]? = some (ax_I (Int32.ofInt (s.1 0))) := rfl
theorem isSub_z {z : Int} (z0 : -2147483648 ≤ z) (z1 : z < 2147483648) : isSub (Int32.ofInt z) = true ↔ 0 ≤ z ∧ z ≤ 3 := by
  unfold isSub
  rw [Bool.and_eq_true, Bool.not_eq_true', Bool.not_eq_true', decide_eq_false_iff_not, decide_eq_false_iff_not, zi_0, show (3 : Int32) = Int32.ofInt 3 from rfl]
  simp (disch := omega) only [zi_lt]
  omega
def hS (o a b c : Int32) : ax_Hp := ax_ls 9731 ax_L0 (some (.inr (0, [o, a, b, c].map ax_I)))
theorem p1_plain (o a b c : Int32) (K : Option Nat → Option Nat → Option Nat → Option Nat → Int32 → ax_Hp → ax_O) (op : (o &&& 15).toInt = 0 ∨ (o &&& 15).toInt = 1 ∨ (o &&& 15).toInt = 2 ∨ (o &&& 15).toInt = 3 ∨ (o &&& 15).toInt = 12) : ∃ h2, Law_law_bd23 (ax_F 1391) K (some 0) (some 1) (some 24) (some 59) 0 (hS o a b c) = K (some 0) (some 1) (some 24) (some 59) 4 h2 ∧ scI [o, a, b, c] h2 := by
  have hs : scI [o, a, b, c] (hS o a b c) := rfl
  have D := dkI_start (some (.inr (0, [o, a, b, c].map ax_I)))
  have M := mdI_start (some (.inr (0, [o, a, b, c].map ax_I)))
  have S := s0_start (some (.inr (0, [o, a, b, c].map ax_I)))
  change dkI (hS o a b c) _ _ _ _ _ at D
  change mdI (hS o a b c) _ _ _ _ at M
  change hS o a b c = mH (hS o a b c) s0 at S
  have hd : obD (hS o a b c) := ⟨_, D.1⟩
  have hm : obM (hS o a b c) := S ▸ obM_mH _ _
  have kept : ∀ {h1 : ax_Hp} {x y : Nat}, but2 (hS o a b c) h1 x y → (0 ≠ x ∧ 0 ≠ y) → (24 ≠ x ∧ 24 ≠ y) → scI [o, a, b, c] h1 ∧ obM h1 := fun b1 c1 c2 => ⟨(b1.2.2 0 c1.1 c1.2).trans hs, by
    obtain ⟨fs, e⟩ := hm
    exact ⟨fs, (b1.2.2 24 c2.1 c2.2).trans e⟩⟩
  obtain ⟨fs, m0, ml, m1, m2, m3, m4, m5, m6, m9, m10, m11, a1, a2, a3⟩ := M
  rcases op with op | op | op | op | op
  · obtain ⟨h1, e1, -, b1⟩ := Desk_write_e (m := 1389) (v := lgW a b) D.1 rfl D.2.1
    obtain ⟨k1, k2⟩ := kept b1 (by decide) (by decide)
    obtain ⟨h2, fs', e2, -, -, -, -, -, -, b2⟩ := Model_write_e (m := 1389) (v := lgW a b) ((b1.2.2 24 (by decide) (by decide)).trans m0) ml m1 m2 (arrIs_kept a1 (b1.2.2 25 (by decide) (by decide)))
    exact ⟨h2, turn_0 K (rdI_0 o a b c) op hs hd e1 k1 k2 e2, (b2.2.2 0 (by decide) (by decide)).trans k1⟩
  · obtain ⟨h1, e1, -, b1⟩ := Desk_wipe_e (m := 1389) D.1 rfl D.2.1
    obtain ⟨k1, k2⟩ := kept b1 (by decide) (by decide)
    exact ⟨_, turn_1 K (rdI_0 o a b c) op hs hd e1 k1 k2 (Model_wipe_e (m := 1390) ((b1.2.2 24 (by decide) (by decide)).trans m0) ml m1), (pl_ne (by decide)).trans ((pl_ne (by decide)).trans k1)⟩
  · obtain ⟨h1, e1, -, b1⟩ := Desk_feed_e (m := 1389) (v := lgW a b) (n := c) D.1 rfl D.2.2.1
    obtain ⟨k1, k2⟩ := kept b1 (by decide) (by decide)
    obtain ⟨h2, fs', e2, -, -, -, -, -, -, b2⟩ := Model_feed_e (m := 1389) (v := lgW a b) (n := c) ((b1.2.2 24 (by decide) (by decide)).trans m0) ml m3 m4 (arrIs_kept a2 (b1.2.2 26 (by decide) (by decide)))
    exact ⟨h2, turn_2 K (rdI_0 o a b c) op hs hd e1 k1 k2 e2, (b2.2.2 0 (by decide) (by decide)).trans k1⟩
  · obtain ⟨h1, e1, -, b1⟩ := Desk_drain_e (m := 1389) D.1 rfl D.2.2.1
    obtain ⟨k1, k2⟩ := kept b1 (by decide) (by decide)
    exact ⟨_, turn_3 K (rdI_0 o a b c) op hs hd e1 k1 k2 (Model_drain_e (m := 1390) ((b1.2.2 24 (by decide) (by decide)).trans m0) ml m3), (pl_ne (by decide)).trans ((pl_ne (by decide)).trans k1)⟩
  · have e1 := Desk_place_e (m := 1390) D.1 rfl
    have e2 : ax_F 1391 208 [ax_A (some 24)] (hS o a b c) = some (.inl (some (ax_I (-1))), mH (hS o a b c) (mI s0 0 0)) := (congrArg (ax_F 1391 208 [ax_A (some 24)]) S).trans (Model_place_z (m := 1390))
    exact ⟨_, turn_12 K (rdI_0 o a b c) op hs hd e1 hs hm e2, scI_mH hs⟩
theorem turn_d {m : Nat} {xs : List Int32} {x4 o a b c : Int32} {h : ax_Hp} (k : Option Nat → Option Nat → Option Nat → Option Nat → Int32 → ax_Hp → ax_O) (hr : rdI xs x4 o a b c) (hop : ∀ j : Int, 0 ≤ j → j ≤ 13 → (o &&& 15).toInt ≠ j) (hs : scI xs h) : Law_law_bd23 (ax_F (m + 1)) k (some 0) (some 1) (some 24) (some 59) x4 h = k (some 0) (some 1) (some 24) (some 59) (x4 + 4) h := by
  obtain ⟨⟨lv, e0, e1⟩, r0, r1, r2, r3⟩ := hr h hs
  unfold Law_law_bd23
  rw [e0, Option.bind_some, if_neg e1, r0, Option.bind_some]
  rw [if_neg (hop 0 (by decide) (by decide)), if_neg (hop 1 (by decide) (by decide)), if_neg (hop 2 (by decide) (by decide)), if_neg (hop 3 (by decide) (by decide)), if_neg (hop 4 (by decide) (by decide)), if_neg (hop 5 (by decide) (by decide)), if_neg (hop 6 (by decide) (by decide)), if_neg (hop 7 (by decide) (by decide)), if_neg (hop 8 (by decide) (by decide)), if_neg (hop 9 (by decide) (by decide)), if_neg (hop 10 (by decide) (by decide)), if_neg (hop 11 (by decide) (by decide)), if_neg (hop 12 (by decide) (by decide)), if_neg (hop 13 (by decide) (by decide))]
  rfl
theorem hS_gs (o a b c : Int32) {n : Int32} (hn : isSub n = true) : ∃ gs : List ax_T, (hS o a b c).2.2 (15 + 2 * n.toNatClampNeg) = some (.inl (6, gs)) ∧ gs[1]? = some (ax_I 0) ∧ gs.length = 3 := by
  obtain ⟨-, e⟩ := isSub_nat hn
  have : n.toNatClampNeg = 0 ∨ n.toNatClampNeg = 1 ∨ n.toNatClampNeg = 2 ∨ n.toNatClampNeg = 3 := by omega
  rcases this with e | e | e | e <;> rw [e]
  · exact ⟨_, (ls_at 14).trans rfl, rfl, rfl⟩
  · exact ⟨_, (ls_at 16).trans rfl, rfl, rfl⟩
  · exact ⟨_, (ls_at 18).trans rfl, rfl, rfl⟩
  · exact ⟨_, (ls_at 20).trans rfl, rfl, rfl⟩
theorem hS_no {n v : Int32} : ¬ vOkD n v 0 := by
  rintro ⟨-, h1, h2⟩
  exact h2 (Int32.not_lt.mp h1)
theorem p1_throw (o a b c : Int32) (K : Option Nat → Option Nat → Option Nat → Option Nat → Int32 → ax_Hp → ax_O) (op : (o &&& 15).toInt = 7 ∨ (o &&& 15).toInt = 8 ∨ (o &&& 15).toInt = 9 ∨ (o &&& 15).toInt = 10 ∨ (o &&& 15).toInt = 11 ∨ (o &&& 15).toInt = 13) : ∃ h2, Law_law_bd23 (ax_F 1391) K (some 0) (some 1) (some 24) (some 59) 0 (hS o a b c) = K (some 0) (some 1) (some 24) (some 59) 4 h2 ∧ scI [o, a, b, c] h2 := by
  have hs : scI [o, a, b, c] (hS o a b c) := rfl
  have D := dkI_start (some (.inr (0, [o, a, b, c].map ax_I)))
  have S := s0_start (some (.inr (0, [o, a, b, c].map ax_I)))
  change dkI (hS o a b c) _ _ _ _ _ at D
  change hS o a b c = mH (hS o a b c) s0 at S
  have T : thr (hS o a b c) = mH (thr (hS o a b c)) s0 := (congrArg thr S).trans (thr_mH (show 58 ≤ 59 by decide))
  have hm : obM (thr (hS o a b c)) := T ▸ obM_mH _ _
  have hst := scI_thr hs
  have hg : ∃ gs : List ax_T, isSub a = true → (hS o a b c).2.2 (15 + 2 * a.toNatClampNeg) = some (.inl (6, gs)) ∧ gs[1]? = some (ax_I 0) := by
    by_cases q : isSub a = true
    · obtain ⟨gs, g1, g2, -⟩ := hS_gs o a b c q
      exact ⟨gs, fun _ => ⟨g1, g2⟩⟩
    · exact ⟨[], fun x => absurd x q⟩
  obtain ⟨gs, hg⟩ := hg
  obtain ⟨za, ea, za0, za1⟩ := zi_of a
  obtain ⟨zb, eb, zb0, zb1⟩ := zi_of b
  obtain ⟨zc, ec, zc0, zc1⟩ := zi_of c
  have hcm : (hS o a b c).1 + 1 ≤ ax_CM := show 59 + 1 ≤ 600002 by decide
  have hsm : (hS o a b c).2.1 + 6 ≤ ax_SM := show 9731 + 6 ≤ 7302232 by decide
  have c0 : ∀ i, 0 ≤ s0.2.2.1 11 i ∧ s0.2.2.1 11 i ≤ 6 := fun i => show (0 : Int) ≤ 0 ∧ (0 : Int) ≤ 6 from ⟨by decide, by decide⟩
  have v0 : ∀ w : Int, ¬ vOk za w (s0.2.2.1 11) := fun w q => by
    obtain ⟨-, -, q1, q2⟩ := q
    change w < 0 at q2
    omega
  have ms : ∀ {no : Nat} {args : List ax_T} {r : ax_O}, ax_F 1391 no args (mH (thr (hS o a b c)) s0) = r → ax_F 1391 no args (thr (hS o a b c)) = r := fun q => (congrArg _ T).trans q
  rcases op with op | op | op | op | op | op
  · have e2 := Model_reads_no (m := 1388) (h := thr (hS o a b c)) za0 za1 zb0 zb1 zc0 zc1 c0 (fun q => v0 zb q.1)
    rw [← ea, ← eb, ← ec] at e2
    exact ⟨_, turn_7 K (rdI_0 o a b c) op hs (Law_reads_no (m := 1387) D.1 rfl D.2.2.2.2.2.1 hg (fun q => hS_no q.1) (fun q => absurd q hS_no) hcm hsm) hst hm (ms e2) rfl (mF_0 _) (fun q => absurd q (by decide)), scI_mH hst⟩
  · have e2 := Model_print_no (m := 1388) (c := if c = 0 then 0 else 1) (h := thr (hS o a b c)) za0 za1 zb0 zb1 c0 (v0 zb)
    rw [← ea, ← eb] at e2
    exact ⟨_, turn_8 K (rdI_0 o a b c) op hs (Law_print_no (m := 1387) D.1 rfl D.2.2.2.2.2.1 hg hS_no hcm hsm) hst hm (ms e2) rfl (mF_0 _) (fun q => absurd q (by decide)), scI_mH hst⟩
  · have e2 := Model_fingerprint_no (m := 1388) (h := thr (hS o a b c)) za0 za1 zb0 zb1 c0 (v0 zb)
    rw [← ea, ← eb] at e2
    exact ⟨_, turn_9 K (rdI_0 o a b c) op hs (Law_fingerprint_no (m := 1387) D.1 rfl D.2.2.2.2.2.1 hg hS_no hcm hsm) hst hm (ms e2) rfl (mF_0 _) (fun q => absurd q (by decide)), scI_mH hst⟩
  · have e2 := Model_encode_no (m := 1388) (h := thr (hS o a b c)) za0 za1 zb0 zb1 c0 (v0 zb)
    rw [← ea, ← eb] at e2
    exact ⟨_, turn_10 K (rdI_0 o a b c) op hs (Law_encode_no (m := 1387) D.1 rfl D.2.2.2.2.2.1 hg hS_no hcm hsm) hst hm (ms e2) rfl (mF_0 _) (fun q => absurd q (by decide)), scI_mH hst⟩
  · have e2 := Model_decode_no (m := 1388) (h := thr (hS o a b c)) za0 za1 zb0 zb1 zc0 zc1 c0 (fun q => v0 zb q.1)
    rw [← ea, ← eb, ← ec] at e2
    exact ⟨_, turn_11 K (rdI_0 o a b c) op hs (Law_decode_no (m := 1387) D.1 rfl D.2.2.2.2.2.1 hg (fun q => hS_no q.1) (fun q => absurd q hS_no) hcm hsm) hst hm (ms e2) rfl (mF_0 _) (fun q => absurd q (by decide)), scI_mH hst⟩
  · have e2 := Model_out_n (m := 1389) (h := thr (hS o a b c)) (s := s0) za0 za1 (by decide) (by decide) (by rintro ⟨q1, q2⟩; change za < 0 at q2; omega)
    rw [← ea] at e2
    exact ⟨_, turn_13 K (rdI_0 o a b c) op hs (Law_out_no (m := 1388) D.1 rfl D.2.2.2.1 (by decide) (Or.inr (Nat.zero_le _)) hcm hsm) hst hm (ms e2) rfl (mF_0 _) (fun q => absurd q (by decide)), scI_mH hst⟩
