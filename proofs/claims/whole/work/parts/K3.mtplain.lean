theorem spIx_at {c : Int → Int} {p x : Int} : ∀ k : Nat, 0 ≤ spIx c p x k → c (p + spIx c p x k) = x
  | 0, h => absurd (show (0 : Int) ≤ -1 from h) (by decide)
  | k + 1, h => by
    rw [spIx_s] at h ⊢
    by_cases q : c (p + k) = x
    · rw [if_pos q]; exact q
    · rw [if_neg q] at h ⊢
      exact spIx_at k h
theorem syF_S {s s' : mS} {N : Nat} {b : Int → Int} (h : syF s s') (S : isS s N b) : isS s' N b := by
  unfold isS at *
  rw [h.1 3 (by decide), h.2.1 4 (by decide)]
  exact S
theorem stE_q {b : Int → Int} : ∀ (k : Nat) (q : Int), 0 ≤ q → 0 ≤ stE b k q → stE b k q = q + k
  | 0, q, _, _ => by show q = q + ((0 : Nat) : Int); omega
  | k + 1, q, q0, h => by
    have e : stE b (k + 1) q = if 32 ≤ b q ∧ b q ≤ 126 ∧ b q ≠ 34 then stE b k (q + 1) else -1 - q := rfl
    rw [e] at h ⊢
    by_cases c : 32 ≤ b q ∧ b q ≤ 126 ∧ b q ≠ 34
    · rw [if_pos c] at h ⊢
      rw [stE_q k (q + 1) (by omega) h]
      omega
    · rw [if_neg c] at h; omega
/-- what a leaf's telling answers -/
def tlR (h : ax_Hp) (s : mS) (R : ax_O) (o : Option (List Int)) : Prop := ∃ s', R = some (.inl (some (ax_I (Int32.ofInt (bI o.isSome)))), mH h s') ∧ syF s s' ∧ (∀ k, o = some k → said s s' k) ∧ 0 ≤ s'.1 7 ∧ s'.1 7 ≤ s.1 7 + 100
theorem tlR_s {h : ax_Hp} {s s1 : mS} {R : ax_O} {o : Option (List Int)} (F : syF s s1) (h7 : s1.1 7 = s.1 7) (h8 : s1.2.2.1 8 = s.2.2.1 8) (H : tlR h s1 R o) : tlR h s R o := by
  obtain ⟨s', e1, e2, e3, e4, e5⟩ := H
  exact ⟨s', e1, F.trans e2, fun k hk => (said_0 h7 h8).trans (e3 k hk), e4, by omega⟩
theorem tlR_1 {h : ax_Hp} {s s' : mS} {k : List Int} (h0 : 0 ≤ s.1 7) (F : syF s s') (S : said s s' k) (hl : k.length ≤ 100) : tlR h s (ax_rz 1 (mH h s')) (some k) := by
  have l := said_1 S
  exact ⟨s', za_rz (v := 1) (Or.inr rfl), F, fun k' e => by cases e; exact S, by omega, by omega⟩
theorem tlR_0 {h : ax_Hp} {s s' : mS} (h0 : 0 ≤ s'.1 7) (F : syF s s') (hl : s'.1 7 ≤ s.1 7 + 100) : tlR h s (ax_rz 0 (mH h s')) none := ⟨s', za_rz (v := 0) (Or.inl rfl), F, (fun k e => nomatch e), h0, hl⟩
theorem Mt_str {m N : Nat} {h : ax_Hp} {b : Int → Int} : ∀ (k : Nat) (s : mS) (i : Int) (fuel : Nat), isS s N b → 0 ≤ i → i + k ≤ N → 0 ≤ s.1 7 → s.1 7 + k < 1000000000 → k < fuel → ∃ s', Model_tellPlain_lp227 (ax_F (m + 1)) fuel (some 24) (Int32.ofInt (i + k)) (Int32.ofInt i) (mH h s) = ax_rz 1 (mH h s') ∧ syF s s' ∧ said s s' (rxS b k i)
  | 0, s, i, fuel, S, i0, i1, h0, h1, hf => by
    obtain ⟨fuel, rfl⟩ : ∃ g, fuel = g + 1 := ⟨fuel - 1, by omega⟩
    have hstep : Model_tellPlain_lp227 (ax_F (m + 1)) (fuel + 1) = Model_tellPlain_bd227 (ax_F (m + 1)) (Model_tellPlain_lp227 (ax_F (m + 1)) fuel) := rfl
    have n64 := S.2.1
    obtain ⟨s1, e1, f1, g1, -⟩ := Model_say_z (n := m) (h := h) (s := s) (x := 34) h0 (by omega)
    refine ⟨s1, ?_, f1, g1⟩
    rw [hstep]
    unfold Model_tellPlain_bd227
    rw [if_pos (show Int32.ofInt (i + ((0 : Nat) : Int)) ≤ Int32.ofInt i from by rw [zi_le (by omega) (by omega) (by omega) (by omega)]; omega), mS_on, pl_cv (show ax_F (m + 1) 160 [ax_A (some 24), ax_I 34] (mH h s) = _ from e1)]
  | k + 1, s, i, fuel, S, i0, i1, h0, h1, hf => by
    obtain ⟨fuel, rfl⟩ : ∃ g, fuel = g + 1 := ⟨fuel - 1, by omega⟩
    have hstep : Model_tellPlain_lp227 (ax_F (m + 1)) (fuel + 1) = Model_tellPlain_bd227 (ax_F (m + 1)) (Model_tellPlain_lp227 (ax_F (m + 1)) fuel) := rfl
    have n64 := S.2.1
    obtain ⟨s1, e1, f1, g1, -⟩ := Model_say_z (n := m) (h := h) (s := s) (x := b i) h0 (by omega)
    have l1 := said_1 g1
    rw [List.length_singleton] at l1
    obtain ⟨s', e2, f2, g2⟩ := Mt_str (m := m) (h := h) k s1 (i + 1) fuel (syF_S f1 S) (by omega) (by omega) (by omega) (by omega) (by omega)
    refine ⟨s', ?_, f1.trans f2, g1.trans g2⟩
    rw [hstep]
    unfold Model_tellPlain_bd227
    rw [if_neg (show ¬ Int32.ofInt (i + ((k + 1 : Nat) : Int)) ≤ Int32.ofInt i from by rw [zi_le (by omega) (by omega) (by omega) (by omega)]; omega), mgr_4, Option.bind_some, mld_4 _ _ _ i0 (by omega), Option.bind_some, S.2.2.2 i i0 (by omega), mS_on, pl_cv e1, show (1 : Int32) = Int32.ofInt 1 from rfl, zi_add, show i + ((k + 1 : Nat) : Int) = i + 1 + (k : Int) by omega]
    exact e2
theorem rxS_len (b : Int → Int) : ∀ (k : Nat) (q : Int), (rxS b k q).length = k + 1
  | 0, _ => rfl
  | k + 1, q => by show (rxS b k (q + 1)).length + 1 = k + 1 + 1; rw [rxS_len b k (q + 1)]
/-- the reference tells a symbol -/
theorem Mt_sym {m : Nat} {h : ax_Hp} {s : mS} {c : Int → Int} {rn r y : Int} (T0 : isT s 0 c) (L1 : lfN s.2.2.1 c rn r) (hE : c r = 69) (hsd : 0 ≤ s.2.2.1 23 rn.toNat ↔ spSd c r ≠ -1) (y0 : 0 ≤ y) (y1 : y < 128) (h0 : 0 ≤ s.1 7) (h1 : s.1 7 < 1000000000) (K : Int32 → ax_O) (hK : ∀ v, K v = if 0 ≤ v then Model_tellPlain_jn171 (ax_F (m + 1)) (some 24) (Int32.ofInt rn) v (mH h s) else (ax_gr (mH h s) (some 24) 9 23).bind fun v25 => (ax_ldi (mH h s) v25 1 (Int32.ofInt rn)).bind fun v26 => Model_tellPlain_jn171 (ax_F (m + 1)) (some 24) (Int32.ofInt rn) v26 (mH h s)) : tlR h s (K (Int32.ofInt (spIx c (r + 2) y (spSy c (r + 2) 8 0)))) (rxY c r y) := by
  obtain ⟨r0, r1, r2, r3, r4⟩ := L1
  obtain ⟨e1, e2, e3, e4⟩ := r4 hE
  have k8 := (spSy_k (c := c) (p := r + 2) 8 0)
  have hz := T0.2.2.2.1
  have ix := fun x => spIx_r (c := c) (p := r + 2) (x := x) (spSy c (r + 2) 8 0)
  have rl := lt_of hz (q := r) (by omega)
  have sz := T0.2.1
  -- the symbol of number k
  have tell : ∀ x, 0 ≤ spIx c (r + 2) x (spSy c (r + 2) 8 0) → tlR h s (Model_tellPlain_jn171 (ax_F (m + 1)) (some 24) (Int32.ofInt rn) (Int32.ofInt (spIx c (r + 2) x (spSy c (r + 2) 8 0))) (mH h s)) (some [x]) := fun x hx => by
    have at1 := spIx_at (c := c) (p := r + 2) (x := x) (spSy c (r + 2) 8 0) hx
    have ir := ix x
    generalize spIx c (r + 2) x (spSy c (r + 2) 8 0) = k at *
    have sm := k8.2.2 k.toNat (by omega) (by omega)
    rw [show ((k.toNat : Nat) : Int) = k by omega] at sm
    have sm1 : 97 ≤ c (r + 2 + k) := sm.1
    have kl := lt_of hz (q := r + 2 + k) (by omega)
    have ld : s.2.2.1 14 (r + 2 + k).toNat = x := by
      have := T0.2.2.1 (r + 2 + k) (by omega) kl
      rw [show 160 * 0 + (r + 2 + k) = r + 2 + k by omega, at1] at this
      exact this
    obtain ⟨s1, q1, q2, q3, -⟩ := Model_say_z (n := m) (h := h) (s := s) (x := x) h0 (by omega)
    unfold Model_tellPlain_jn171 Model_tellPlain_jn197
    rw [if_pos (show (0 : Int32) ≤ Int32.ofInt k from by rw [zi_0, zi_le (by omega) (by omega) (by omega) (by omega)]; omega), mgr_14, Option.bind_some, mgr_22, Option.bind_some, mld_22 _ _ _ r0 (by omega), Option.bind_some, e1, zi_add, mld_14 _ _ _ (by omega) (by omega), Option.bind_some, ld, mS_on, pl_cv q1, if_neg (show ¬ Int32.ofInt k < 0 from zi_n0 hx (by omega))]
    exact tlR_1 h0 q2 q3 (by rw [List.length_singleton]; omega)
  rw [hK]
  unfold rxY
  have iy := ix y
  by_cases c1 : spIx c (r + 2) y (spSy c (r + 2) 8 0) = -1
  · rw [if_pos c1, c1, if_neg (show ¬ (0 : Int32) ≤ Int32.ofInt (-1) from by decide), mgr_23, Option.bind_some, mld_23 _ _ _ r0 (by omega), Option.bind_some]
    by_cases c2 : spSd c r = -1
    · rw [if_pos c2]
      have neg : s.2.2.1 23 rn.toNat = -1 := by
        rw [e3] at hsd ⊢
        by_cases z : c (r + 2 + spSy c (r + 2) 8 0) = 61
        · rw [if_pos z] at hsd ⊢
          have := ix (c (r + 2 + spSy c (r + 2) 8 0 + 1))
          have := fun w => hsd.mp w c2
          omega
        · rw [if_neg z]
      obtain ⟨s1, q1, q2, q3, -⟩ := Model_say_z (n := m) (h := h) (s := s) (x := 0) h0 (by omega)
      have l1 := said_1 q3
      rw [List.length_singleton] at l1
      rw [neg]
      unfold Model_tellPlain_jn171 Model_tellPlain_jn197
      rw [if_neg (show ¬ (0 : Int32) ≤ Int32.ofInt (-1) from by decide), mS_on, pl_cv (show ax_F (m + 1) 160 [ax_A (some 24), ax_I 0] (mH h s) = _ from q1), if_pos (show Int32.ofInt (-1) < 0 from by decide)]
      exact tlR_0 (by omega) q2 (by omega)
    · rw [if_neg c2]
      have p0 := hsd.mpr c2
      rw [e3] at p0 ⊢
      by_cases z : c (r + 2 + spSy c (r + 2) 8 0) = 61
      · rw [if_pos z] at p0 ⊢
        have es : spSd c r = c (r + 2 + spSy c (r + 2) 8 0 + 1) := by unfold spSd; rw [if_pos z]
        rw [es]
        exact tell _ p0
      · rw [if_neg z] at p0; omega
  · rw [if_neg c1, if_pos (show (0 : Int32) ≤ Int32.ofInt (spIx c (r + 2) y (spSy c (r + 2) 8 0)) from by rw [zi_0, zi_le (by omega) (by omega) (by omega) (by omega)]; omega)]
    exact tell y (by omega)
set_option maxHeartbeats 1000000 in
/-- the reference tells a leaf -/
theorem Model_tellPlain_z {m N : Nat} {h : ax_Hp} {s : mS} {c d b : Int → Int} {rn wn r w q : Int} (S : isS s N b) (T0 : isT s 0 c) (T1 : isT s 1 d) (L1 : lfN s.2.2.1 c rn r) (L2 : lfN s.2.2.1 d wn w) (hw : isPl (d w) ∨ d w = 69) (hsd : c r = 69 → (0 ≤ s.2.2.1 23 rn.toNat ↔ spSd c r ≠ -1)) (q0 : 0 ≤ q) (q1 : q ≤ N) (hS : 0 ≤ spSl d b w q) (h0 : 0 ≤ s.1 7) (h1 : s.1 7 < 900000000) : tlR h s (ax_F (m + 5) 204 [ax_A (some 24), ax_I (Int32.ofInt rn), ax_I (Int32.ofInt wn), ax_I (Int32.ofInt q)] (mH h s)) (if c r = d w ∨ (d w = 73 ∧ c r = 76) then rxP c d b r w q else none) := by
  obtain ⟨v, e, hv⟩ := Model_tplain_z (m := m) (h := h) (s := s) (n := wn) (t := w) S L2 hw q0 q1
  have hv := hv hS
  have n64 := S.2.1
  have B := S.2.2.1
  have bb := bSt_b B q0
  have cb := T0.2.2.2.2 r
  have db := T1.2.2.2.2 w
  have r0 := L1.1
  have r1 := L1.2.1
  have w0 := L2.1
  have w1 := L2.2.1
  refine tlR_s (syF_L s v) rfl rfl ?_
  have S1 : isS (mL s v) N b := S
  have T01 : isT (mL s v) 0 c := T0
  have T11 : isT (mL s v) 1 d := T1
  have L11 : lfN (mL s v).2.2.1 c rn r := L1
  have L21 : lfN (mL s v).2.2.1 d wn w := L2
  have hsd1 : c r = 69 → (0 ≤ (mL s v).2.2.1 23 rn.toNat ↔ spSd c r ≠ -1) := hsd
  have h01 : 0 ≤ (mL s v).1 7 := h0
  have h11 : (mL s v).1 7 < 900000000 := h1
  have v1 : (mL s v).2.1 = v := rfl
  rw [Model_tellPlain_F]
  unfold Model_tellPlain_b
  rw [mS_on, pl_ci e]
  clear e
  generalize mL s v = s1 at *
  have ldr : ax_ldi (mH h s1) (some 36) 3 (Int32.ofInt rn) = some (Int32.ofInt (c r)) := by rw [mld_17 h s1 _ r0 (by omega), L11.2.2.2.1]
  have ldw : ax_ldi (mH h s1) (some 36) 3 (Int32.ofInt wn) = some (Int32.ofInt (d w)) := by rw [mld_17 h s1 _ w0 (by omega), L21.2.2.2.1]
  simp only [mgr_17, Option.bind_some, ldr, ldw]
  have num : ∀ lg : Bool, decide (d w = 76) = lg → v = (spNv b lg q).toInt → tlR h s1 ((ax_gl (mH h s1) (some 24) 9 37).bind fun v38 => ax_on (mH h s1) (some 24) 9 <| ax_cv (ax_F (m + 4) 205 [ax_A (some 24), ax_L v38] (mH h s1)) fun h39 => ax_rz 1 h39) (some (decL (spNv b lg q))) := fun lg hlg ev => by
    obtain ⟨s2, e2, f2, g2⟩ := Model_sayNumber_z (m := m + 2) (h := h) (s := s1) (v := spNv b lg q) h01 (by omega)
    have dl := decL_len (spNv b lg q)
    rw [mgl_37, Option.bind_some, mS_on, v1, ev, Int64.ofInt_toInt, pl_cv (show ax_F (m + 4) 205 [ax_A (some 24), ax_L (spNv b lg q)] (mH h s1) = _ from e2)]
    exact tlR_1 h01 f2 g2 (by omega)
  have body : (c r = d w ∨ (d w = 73 ∧ c r = 76)) → tlR h s1 (Model_tellPlain_jn47 (ax_F (m + 4)) (some 24) (Int32.ofInt rn) (Int32.ofInt wn) (Int32.ofInt (spSl d b w q)) (mH h s1)) (rxP c d b r w q) := fun ck => by
    unfold Model_tellPlain_jn47 rxP
    rw [mgr_17, Option.bind_some, ldr, Option.bind_some]
    unfold spLv at hv
    rcases hw with (hh | hh | hh | hh | hh) | hh
    · have cr : c r = 78 := by omega
      obtain ⟨s2, e2, f2, g2, -⟩ := Model_say_z (n := m + 3) (h := h) (s := s1) (x := 78) h01 (by omega)
      rw [cr, show (Int32.ofInt 78).toInt = 78 from rfl, if_neg (by decide), if_neg (by decide), if_pos rfl, if_pos hh, mS_on, pl_cv (show ax_F (m + 4) 160 [ax_A (some 24), ax_I 78] (mH h s1) = _ from e2)]
      exact tlR_1 h01 f2 g2 (by rw [List.length_singleton]; omega)
    · have cr : c r = 66 := by omega
      have ev : v = b q := by have := hv (by omega); rw [if_pos hh] at this; exact this
      unfold spSl at hS
      rw [if_neg (by omega), if_pos hh] at hS
      have bq : b q = 0 ∨ b q = 1 := by
        by_cases z : b q = 0 ∨ b q = 1
        · exact z
        · rw [if_neg z] at hS; omega
      rw [cr, show (Int32.ofInt 66).toInt = 66 from rfl, if_pos rfl, if_neg (show ¬ d w = 78 by omega), if_pos hh, mgl_37, Option.bind_some, v1, ev]
      unfold Model_tellPlain_jn121
      rcases bq with z | z
      · obtain ⟨s2, e2, f2, g2, -⟩ := Model_say_z (n := m + 3) (h := h) (s := s1) (x := 70) h01 (by omega)
        rw [z, if_neg (show ¬ lg_cmp (Int64.ofInt 0) 1 = 0 from by decide), if_neg (show ¬ (0 : Int) = 1 by decide), mS_on, pl_cv (show ax_F (m + 4) 160 [ax_A (some 24), ax_I 70] (mH h s1) = _ from e2)]
        exact tlR_1 h01 f2 g2 (by rw [List.length_singleton]; omega)
      · obtain ⟨s2, e2, f2, g2, -⟩ := Model_say_z (n := m + 3) (h := h) (s := s1) (x := 84) h01 (by omega)
        rw [z, if_pos (show lg_cmp (Int64.ofInt 1) 1 = 0 from by decide), if_pos rfl, mS_on, pl_cv (show ax_F (m + 4) 160 [ax_A (some 24), ax_I 84] (mH h s1) = _ from e2)]
        exact tlR_1 h01 f2 g2 (by rw [List.length_singleton]; omega)
    · have ev : v = (spNv b false q).toInt := by have := hv (by omega); rw [if_neg (by omega), if_neg (by omega), decide_eq_false (by omega)] at this; exact this
      have cr : c r = 73 ∨ c r = 76 := by omega
      have ek : (Int32.ofInt (c r)).toInt = c r := zi_toInt (by omega) (by omega)
      rw [ek, if_neg (by omega), if_neg (by omega), if_neg (by omega), if_neg (by omega), if_neg (show ¬ d w = 78 by omega), if_neg (show ¬ d w = 66 by omega), if_neg (show ¬ d w = 69 by omega), if_neg (show ¬ d w = 83 by omega), decide_eq_false (show ¬ d w = 76 by omega)]
      exact num false (decide_eq_false (by omega)) ev
    · have ev : v = (spNv b true q).toInt := by have := hv (by omega); rw [if_neg (by omega), if_neg (by omega), decide_eq_true hh] at this; exact this
      have cr : c r = 76 := by omega
      have ek : (Int32.ofInt (c r)).toInt = c r := zi_toInt (by omega) (by omega)
      rw [ek, if_neg (by omega), if_neg (by omega), if_neg (by omega), if_neg (by omega), if_neg (show ¬ d w = 78 by omega), if_neg (show ¬ d w = 66 by omega), if_neg (show ¬ d w = 69 by omega), if_neg (show ¬ d w = 83 by omega), decide_eq_true hh]
      exact num true (decide_eq_true hh) ev
    · have cr : c r = 83 := by omega
      have ev : v = b q / 2 := by have := hv (by omega); rw [if_neg (by omega), if_pos (Or.inr hh)] at this; exact this
      have es : spSl d b w q = spSt b q := by unfold spSl; rw [if_neg (by omega), if_neg (by omega), if_neg (by omega), if_pos hh]
      rw [es] at hS ⊢
      unfold spSt at hS ⊢
      by_cases cf : hfO b 13 q
      · rw [if_pos cf] at hS ⊢
        have cf0 := cf.1
        have cf2 := cf.2.2
        have lt := bb.2.2.1 cf0
        have sq := stE_q _ _ (by omega) hS
        have sN := (spSl_b (c := d) B w q q0 q1).1 (by rw [es]; unfold spSt; rw [if_pos cf]; exact hS)
        rw [es] at sN
        unfold spSt at sN
        rw [if_pos cf, sq] at sN
        rw [sq]
        obtain ⟨s2, e2, f2, g2, v2⟩ := Model_say_z (n := m + 3) (h := h) (s := s1) (x := 34) h01 (by omega)
        have l2 := said_1 g2
        rw [List.length_singleton] at l2
        obtain ⟨s3, e3, f3, g3⟩ := Mt_str (m := m + 3) (h := h) (b q / 2).toNat s2 (q + 1) ax_fuel (syF_S f2 S1) (by omega) sN.2 (by omega) (by omega) (by unfold ax_fuel; omega)
        have e32 : (Int64.ofInt (b q / 2)).toInt32 = Int32.ofInt (b q / 2) := zl_32 (by omega) (by omega)
        rw [cr, show (Int32.ofInt 83).toInt = 83 from rfl, if_neg (by decide), if_neg (by decide), if_neg (by decide), if_pos rfl, if_neg (show ¬ d w = 78 by omega), if_neg (show ¬ d w = 66 by omega), if_neg (show ¬ d w = 69 by omega), if_pos hh, mS_on, pl_cv (show ax_F (m + 4) 160 [ax_A (some 24), ax_I 34] (mH h s1) = _ from e2), mgl_37, Option.bind_some, v2, v1, ev, e32, zi_sub, show q + 1 + (((b q / 2).toNat : Nat) : Int) - b q / 2 = q + 1 by omega, e3]
        exact tlR_1 (k := 34 :: rxS b (b q / 2).toNat (q + 1)) h01 (f2.trans f3) (g2.trans g3) (by rw [List.length_cons, rxS_len]; omega)
      · rw [if_neg cf] at hS; omega
    · have cr : c r = 69 := by omega
      have ev : v = b q / 2 := by have := hv (by omega); rw [if_neg (by omega), if_pos (Or.inl hh)] at this; exact this
      have es : spSl d b w q = spHf b (spSy d (w + 2) 8 0) q := by unfold spSl; rw [if_neg (by omega), if_neg (by omega), if_pos hh]
      rw [es] at hS
      unfold spHf at hS
      by_cases cf : hfO b (spSy d (w + 2) 8 0) q
      · have cf0 := cf.1
        have cf2 := cf.2.2
        obtain ⟨e1, e2, e3, e4⟩ := L21.2.2.2.2 hh
        have k8 := (spSy_k (c := d) (p := w + 2) 8 0)
        have w2 := L21.2.2.1
        have hz := T11.2.2.2.1
        have sm := k8.2.2 (b q / 2).toNat (by omega) (by omega)
        rw [show (((b q / 2).toNat : Nat) : Int) = b q / 2 by omega] at sm
        have sm1 : 97 ≤ d (w + 2 + b q / 2) := sm.1
        have kl := lt_of hz (q := w + 2 + b q / 2) (by omega)
        have sz := T11.2.1
        have db2 := T11.2.2.2.2 (w + 2 + b q / 2)
        have ld : s1.2.2.1 14 (160 + (w + 2) + b q / 2).toNat = d (w + 2 + b q / 2) := by
          have := T11.2.2.1 (w + 2 + b q / 2) (by omega) kl
          rw [show 160 * 1 + (w + 2 + b q / 2) = 160 + (w + 2) + b q / 2 by omega] at this
          exact this
        have e32 : (Int64.ofInt (b q / 2)).toInt32 = Int32.ofInt (b q / 2) := zl_32 (by omega) (by omega)
        rw [cr, show (Int32.ofInt 69).toInt = 69 from rfl, if_neg (by decide), if_pos rfl, if_neg (show ¬ d w = 78 by omega), if_neg (show ¬ d w = 66 by omega), if_pos hh, mgr_14, Option.bind_some, mgr_22, Option.bind_some, mld_22 _ _ _ w0 (by omega), Option.bind_some, e1, mgl_37, Option.bind_some, v1, ev, e32, show (160 : Int32) = Int32.ofInt 160 from rfl, zi_add, zi_add, mld_14 _ _ _ (by omega) (by omega), Option.bind_some, ld, mS_on, pl_ci (show ax_F (m + 4) 163 [ax_A (some 24), ax_I 0, ax_I (Int32.ofInt rn), ax_I (Int32.ofInt (d (w + 2 + b q / 2)))] (mH h s1) = _ from eN_sym (m := m + 3) (tb := 0) T01 (by omega) (by omega) L11 cr (by omega) (by omega))]
        exact Mt_sym (m := m + 3) T01 L11 cr (hsd1 cr) (by omega) (by omega) h01 (by omega) (fun v18 => if 0 ≤ v18 then Model_tellPlain_jn171 (ax_F (m + 4)) (some 24) (Int32.ofInt rn) v18 (mH h s1) else (ax_gr (mH h s1) (some 24) 9 23).bind fun v25 => (ax_ldi (mH h s1) v25 1 (Int32.ofInt rn)).bind fun v26 => Model_tellPlain_jn171 (ax_F (m + 4)) (some 24) (Int32.ofInt rn) v26 (mH h s1)) (fun _ => rfl)
      · rw [if_neg cf] at hS; omega
  by_cases c1 : c r = d w
  · rw [if_pos (show Int32.ofInt (c r) = Int32.ofInt (d w) from by rw [c1]), if_pos (Or.inl c1)]
    exact body (Or.inl c1)
  · rw [if_neg (show ¬ Int32.ofInt (c r) = Int32.ofInt (d w) from by rw [zi_eq (by omega) (by omega) (by omega) (by omega)]; exact c1)]
    by_cases c2 : c r = 76
    · rw [if_pos (show Int32.ofInt (c r) = 76 from by rw [c2]; rfl)]
      by_cases c3 : d w = 73
      · rw [if_pos (show Int32.ofInt (d w) = 73 from by rw [c3]; rfl), if_pos (Or.inr ⟨c3, c2⟩)]
        exact body (Or.inr ⟨c3, c2⟩)
      · rw [if_neg (show ¬ Int32.ofInt (d w) = 73 from by rw [show (73 : Int32) = Int32.ofInt 73 from rfl, zi_eq (by omega) (by omega) (by omega) (by omega)]; exact c3), if_neg (fun z => by rcases z with z | z; exact c1 z; exact c3 z.1)]
        exact tlR_0 h01 (syF_refl _) (by omega)
    · rw [if_neg (show ¬ Int32.ofInt (c r) = 76 from by rw [show (76 : Int32) = Int32.ofInt 76 from rfl, zi_eq (by omega) (by omega) (by omega) (by omega)]; exact c2), if_neg (fun z => by rcases z with z | z; exact c1 z; exact c2 z.2)]
      exact tlR_0 h01 (syF_refl _) (by omega)
