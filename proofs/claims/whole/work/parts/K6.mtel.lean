/-- telling a value of the writer's type w as the reader's type r does what the text says -/
def simR (m N : Nat) (h : ax_Hp) (b c d : Int → Int) (N0 N1 : Int) (n : Nat) : Prop := ∀ (D1 D2 : Nat) (rn r wn w q L : Int) (s : mS) (m' : Nat), D1 + D2 + 1 ≤ n → D1 ≤ 6 → D2 ≤ 6 → rcx s N b c d N0 N1 → gN s.2.2.1 c N0 D1 rn r → gN s.2.2.1 d (120 + N1) D2 wn w → 120 ≤ wn → 0 ≤ q → q ≤ N → 0 ≤ spSc d b D2 w q → s.1 48 = L → 0 ≤ L → L + D1 ≤ 6 → s.1 49 = 0 → 0 ≤ s.1 7 → s.1 7 ≤ 402 → ∃ s', ax_F (m' + 6) 203 [ax_A (some 24), ax_I (Int32.ofInt rn), ax_I (Int32.ofInt wn), ax_I (Int32.ofInt q)] (mH h s) = some (.inl none, mH h s') ∧ rr m h L (fun fuel => lpR m h fuel s') s (rsv c d b n D1 D2 r w q) (kS D1) (fun x => x.1 48 = L)
/-- the frame of a holder that is being told -/
def aF (s : mS) (L tv wn q lf dn : Int) : Prop := s.1 48 = L + 1 ∧ s.1 49 = 0 ∧ s.2.2.1 43 L.toNat = tv ∧ s.2.2.1 44 L.toNat = wn ∧ s.2.2.1 45 L.toNat = q ∧ s.2.2.1 46 L.toNat = lf ∧ s.2.2.1 47 L.toNat = dn ∧ 0 ≤ s.1 7
theorem aF_k {s s' : mS} {L tv wn q lf dn : Int} (h : aF s L tv wn q lf dn) (l0 : 0 ≤ L) (K : rvK (L + 1) s s') (h48 : s'.1 48 = L + 1) (h49 : s'.1 49 = 0) (h7 : 0 ≤ s'.1 7) : aF s' L tv wn q lf dn := by
  obtain ⟨a1, a2, a3, a4, a5, a6, a7, a8⟩ := h
  exact ⟨h48, h49, (K 43 (by omega) (by omega) _ (by omega)).trans a3, (K 44 (by omega) (by omega) _ (by omega)).trans a4, (K 45 (by omega) (by omega) _ (by omega)).trans a5, (K 46 (by omega) (by omega) _ (by omega)).trans a6, (K 47 (by omega) (by omega) _ (by omega)).trans a7, h7⟩
theorem aF_L {s : mS} {L tv wn q lf dn v : Int} (h : aF s L tv wn q lf dn) : aF (mL s v) L tv wn q lf dn := h
theorem aF_43 {s : mS} {L tv wn q lf dn v : Int} (h : aF s L tv wn q lf dn) : aF (mU s 43 L v) L v wn q lf dn := by
  obtain ⟨a1, a2, a3, a4, a5, a6, a7, a8⟩ := h
  refine ⟨a1, a2, ?_, ?_, ?_, ?_, ?_, a8⟩
  · rw [mU_3, if_pos ⟨rfl, rfl⟩]
  · rw [mU_ne _ _ _ _ _ (by decide)]; exact a4
  · rw [mU_ne _ _ _ _ _ (by decide)]; exact a5
  · rw [mU_ne _ _ _ _ _ (by decide)]; exact a6
  · rw [mU_ne _ _ _ _ _ (by decide)]; exact a7
theorem aF_45 {s : mS} {L tv wn q lf dn v : Int} (h : aF s L tv wn q lf dn) : aF (mU s 45 L v) L tv wn v lf dn := by
  obtain ⟨a1, a2, a3, a4, a5, a6, a7, a8⟩ := h
  refine ⟨a1, a2, ?_, ?_, ?_, ?_, ?_, a8⟩
  · rw [mU_ne _ _ _ _ _ (by decide)]; exact a3
  · rw [mU_ne _ _ _ _ _ (by decide)]; exact a4
  · rw [mU_3, if_pos ⟨rfl, rfl⟩]
  · rw [mU_ne _ _ _ _ _ (by decide)]; exact a6
  · rw [mU_ne _ _ _ _ _ (by decide)]; exact a7
theorem aF_46 {s : mS} {L tv wn q lf dn v : Int} (h : aF s L tv wn q lf dn) : aF (mU s 46 L v) L tv wn q v dn := by
  obtain ⟨a1, a2, a3, a4, a5, a6, a7, a8⟩ := h
  refine ⟨a1, a2, ?_, ?_, ?_, ?_, ?_, a8⟩
  · rw [mU_ne _ _ _ _ _ (by decide)]; exact a3
  · rw [mU_ne _ _ _ _ _ (by decide)]; exact a4
  · rw [mU_ne _ _ _ _ _ (by decide)]; exact a5
  · rw [mU_3, if_pos ⟨rfl, rfl⟩]
  · rw [mU_ne _ _ _ _ _ (by decide)]; exact a7
theorem aF_47 {s : mS} {L tv wn q lf dn v : Int} (h : aF s L tv wn q lf dn) : aF (mU s 47 L v) L tv wn q lf v := by
  obtain ⟨a1, a2, a3, a4, a5, a6, a7, a8⟩ := h
  refine ⟨a1, a2, ?_, ?_, ?_, ?_, ?_, a8⟩
  · rw [mU_ne _ _ _ _ _ (by decide)]; exact a3
  · rw [mU_ne _ _ _ _ _ (by decide)]; exact a4
  · rw [mU_ne _ _ _ _ _ (by decide)]; exact a5
  · rw [mU_ne _ _ _ _ _ (by decide)]; exact a6
  · rw [mU_3, if_pos ⟨rfl, rfl⟩]
theorem aF_sy {s s' : mS} {L tv wn q lf dn : Int} (h : aF s L tv wn q lf dn) (l0 : 0 ≤ L) (F : syF s s') (h7 : 0 ≤ s'.1 7) : aF s' L tv wn q lf dn := aF_k h l0 (F.rk _) ((F.1 48 (by decide)).trans h.1) ((F.1 49 (by decide)).trans h.2.1) h7
theorem aF_sc {s s' : mS} {L tv wn q lf dn : Int} (h : aF s L tv wn q lf dn) (l0 : 0 ≤ L) (F : scF s s') : aF s' L tv wn q lf dn := aF_k h l0 (F.rk _) ((F.1 48 (by decide) (by decide)).trans h.1) ((F.1 49 (by decide) (by decide)).trans h.2.1) (by rw [F.1 7 (by decide) (by decide)]; exact h.2.2.2.2.2.2.2)
/-- , ahead of all but the first -/
def sepL (dn : Int) : List Int := if dn = 0 then [] else [44]
def elR (m : Nat) (h : ax_Hp) (L : Int) (fuel : Nat) (s : mS) : ax_O := ax_cv (Model_tellElement_jn71 (ax_F (m + 7)) (some 24) (Int32.ofInt L) (mH h s)) (fun g => Model_resolve_lp23 (ax_F (m + 8)) fuel (some 24) g)
/-- one element -/
theorem Me_one {m N : Nat} {h : ax_Hp} {s : mS} {b c d : Int → Int} {N0 N1 rn r wn w q L dn : Int} {n Da Db k : Nat} (E : simR m N h b c d N0 N1 n) (hn : Da + Db + 1 ≤ n) (ha : Da ≤ 6) (hb : Db ≤ 6) (R : rcx s N b c d N0 N1) (x1 : s.2.2.1 18 rn.toNat = rn + 1) (g1 : gN s.2.2.1 c N0 Da (rn + 1) (r + 1)) (x2 : s.2.2.1 18 wn.toNat = wn + 1) (g2 : gN s.2.2.1 d (120 + N1) Db (wn + 1) (w + 1)) (r0 : 0 ≤ rn) (w0 : 120 ≤ wn) (q0 : 0 ≤ q) (q1 : q ≤ N) (hS : 0 ≤ spSc d b Db (w + 1) q) (l0 : 0 ≤ L) (hL : L + 1 + Da ≤ 6) (A : aF s L rn wn q ((k + 1 : Nat) : Int) dn) (k1 : k ≤ 100) (d0 : 0 ≤ dn) (d1 : dn ≤ 100) (h7 : s.1 7 ≤ 400) :
    ∃ s4 s5 : mS, (∀ fuel, elR m h L fuel s = lpR m h fuel s5) ∧ rvF s s4 ∧ rvK L s s4 ∧ said s s4 (sepL dn) ∧ aF s4 L rn wn (spSc d b Db (w + 1) q) k (dn + 1) ∧ rr m h (L + 1) (fun fuel => lpR m h fuel s5) s4 (rsv c d b n Da Db (r + 1) (w + 1) q) (kS Da) (fun x => x.1 48 = L + 1) := by
  have p1 := gN_k g1
  have p2 := gN_k g2
  have n0 := R.2.2.2.1
  have n1 := R.2.2.2.2.1
  have n64 := R.1.2.1
  have L9 : L < 10 := by omega
  obtain ⟨s1, e1, f1, sd1⟩ : ∃ s1, Model_tellElement_jn71 (ax_F (m + 7)) (some 24) (Int32.ofInt L) (mH h s) = Model_tellElement_jn86 (ax_F (m + 7)) (some 24) (Int32.ofInt L) (mH h s1) ∧ syF s s1 ∧ said s s1 (sepL dn) := by
    unfold Model_tellElement_jn71 sepL
    rw [mgr_47, Option.bind_some, mld_47 _ _ _ l0 L9, Option.bind_some, A.2.2.2.2.2.2.1]
    by_cases z : dn = 0
    · rw [if_pos (show Int32.ofInt dn ≤ 0 from by rw [zi_0, zi_le (by omega) (by omega) (by omega) (by omega)]; omega), if_pos z]
      exact ⟨s, rfl, syF_refl s, said_0 rfl rfl⟩
    · obtain ⟨s1, e1, f1, g1, -⟩ := Model_say_z (n := m + 6) (h := h) (s := s) (x := 44) A.2.2.2.2.2.2.2 (by omega)
      rw [if_neg (show ¬ Int32.ofInt dn ≤ 0 from by rw [zi_0, zi_le (by omega) (by omega) (by omega) (by omega)]; omega), if_neg z, mS_on, pl_cv (show ax_F (m + 7) 160 [ax_A (some 24), ax_I 44] (mH h s) = _ from e1)]
      exact ⟨s1, rfl, f1, g1⟩
  have l7 := said_1 sd1
  have sl : (sepL dn).length ≤ 1 := by unfold sepL; split <;> decide
  have A7 := A.2.2.2.2.2.2.2
  have A1 := aF_sy A l0 f1 (by omega)
  have y1 : s1.2.2.1 18 = s.2.2.1 18 := f1.2.1 18 (by decide)
  have A2 := aF_46 (v := (k : Int)) (aF_47 (v := dn + 1) A1)
  have F2 : rvF s (mU (mU s1 47 L (dn + 1)) 46 L k) := f1.rv.trans ((rvF_U (by omega)).trans (rvF_U (by omega)))
  have K2 : rvK L s (mU (mU s1 47 L (dn + 1)) 46 L k) := (f1.rk L).trans ((rvK_U (by omega)).trans (rvK_U (by omega)))
  have S2 : said s (mU (mU s1 47 L (dn + 1)) 46 L k) (sepL dn) := by
    have := sd1.trans (said_0 (s' := mU (mU s1 47 L (dn + 1)) 46 L k) rfl rfl)
    rw [List.append_nil] at this
    exact this
  have B1 := A1.2.2.2.2.2.2.1
  have B2 : (mU s1 47 L (dn + 1)).2.2.1 46 L.toNat = ((k + 1 : Nat) : Int) := by rw [mU_ne _ _ _ _ _ (by decide)]; exact A1.2.2.2.2.2.1
  have j86 : Model_tellElement_jn86 (ax_F (m + 7)) (some 24) (Int32.ofInt L) (mH h s1) = (ax_gr (mH h (mU (mU s1 47 L (dn + 1)) 46 L k)) (some 24) 9 45).bind fun v12 => (ax_ldi (mH h (mU (mU s1 47 L (dn + 1)) 46 L k)) v12 1 (Int32.ofInt L)).bind fun v13 => (ax_gr (mH h (mU (mU s1 47 L (dn + 1)) 46 L k)) (some 24) 9 45).bind fun v14 => (ax_gr (mH h (mU (mU s1 47 L (dn + 1)) 46 L k)) (some 24) 9 18).bind fun v15 => (ax_gr (mH h (mU (mU s1 47 L (dn + 1)) 46 L k)) (some 24) 9 44).bind fun v16 => (ax_ldi (mH h (mU (mU s1 47 L (dn + 1)) 46 L k)) v16 1 (Int32.ofInt L)).bind fun v17 => (ax_ldi (mH h (mU (mU s1 47 L (dn + 1)) 46 L k)) v15 1 v17).bind fun v18 => ax_on (mH h (mU (mU s1 47 L (dn + 1)) 46 L k)) (some 24) 9 <| ax_ci (ax_F (m + 7) 194 [ax_A (some 24), ax_I v18, ax_I v13] (mH h (mU (mU s1 47 L (dn + 1)) 46 L k))) fun v20 h19 => (ax_st h19 v14 1 (Int32.ofInt L) (ax_I v20)).bind fun h21 => (ax_gr h21 (some 24) 9 18).bind fun v22 => (ax_gr h21 (some 24) 9 43).bind fun v23 => (ax_ldi h21 v23 1 (Int32.ofInt L)).bind fun v24 => (ax_ldi h21 v22 1 v24).bind fun v25 => (ax_gr h21 (some 24) 9 18).bind fun v26 => (ax_gr h21 (some 24) 9 44).bind fun v27 => (ax_ldi h21 v27 1 (Int32.ofInt L)).bind fun v28 => (ax_ldi h21 v26 1 v28).bind fun v29 => ax_on h21 (some 24) 9 <| ax_cv (ax_F (m + 7) 203 [ax_A (some 24), ax_I v25, ax_I v29, ax_I v13] h21) fun h30 => ax_rv h30 := by
    unfold Model_tellElement_jn86
    rw [mgr_47, Option.bind_some, mld_47 _ _ _ l0 L9, Option.bind_some, B1, show (1 : Int32) = Int32.ofInt 1 from rfl, zi_add, mst_47 _ _ _ _ l0 L9, Option.bind_some, mgr_46, Option.bind_some, mld_46 _ _ _ l0 L9, Option.bind_some, B2, zi_sub, show ((k + 1 : Nat) : Int) - 1 = (k : Int) by omega, mst_46 _ _ _ _ l0 L9, Option.bind_some]
  have z18 : (mU (mU s1 47 L (dn + 1)) 46 L k).2.2.1 18 = s.2.2.1 18 := by rw [mU_ne _ _ _ _ _ (by decide), mU_ne _ _ _ _ _ (by decide)]; exact y1
  have h72 : (mU (mU s1 47 L (dn + 1)) 46 L k).1 7 ≤ 401 := by show s1.1 7 ≤ 401; omega
  generalize mU (mU s1 47 L (dn + 1)) 46 L k = s2 at *
  have R2 := rcx_of F2 R
  have G1 : gN s2.2.2.1 c N0 Da (rn + 1) (r + 1) := gN_of (fun j a b => rvF_17 F2 a b) g1
  have G2 : gN s2.2.2.1 d (120 + N1) Db (wn + 1) (w + 1) := gN_of (fun j a b => rvF_17 F2 a b) g2
  obtain ⟨s3, e3, f3⟩ := Model_scan_z (m := m + 1) (h := h) (s := s2) (n := wn + 1) (t := w + 1) (fun p hp => R2.2.2.1.2.2.2.1 p (by have := R2.2.2.1.2.1; omega)) R2.2.2.1.2.2.2.2 R2.1 hb (gN_Nd (by omega) G2) G2.2.2.2 q0 q1
  have A3 := aF_sc A2 l0 f3
  have A4 := aF_45 (v := spSc d b Db (w + 1) q) A3
  have F4 : rvF s (mU s3 45 L (spSc d b Db (w + 1) q)) := F2.trans (f3.rv.trans (rvF_U (by omega)))
  have K4 : rvK L s (mU s3 45 L (spSc d b Db (w + 1) q)) := K2.trans ((f3.rk L).trans (rvK_U (by omega)))
  have S4 : said s (mU s3 45 L (spSc d b Db (w + 1) q)) (sepL dn) := by
    have := S2.trans (said_0 (s' := mU s3 45 L (spSc d b Db (w + 1) q)) (f3.1 7 (by decide) (by decide)) (by rw [mU_ne _ _ _ _ _ (by decide)]; exact f3.2.1 8 (by decide) (by decide) (by decide) (by decide)))
    rw [List.append_nil] at this
    exact this
  have z184 : (mU s3 45 L (spSc d b Db (w + 1) q)).2.2.1 18 = s.2.2.1 18 := by rw [mU_ne _ _ _ _ _ (by decide), f3.2.1 18 (by decide) (by decide) (by decide) (by decide)]; exact z18
  have h74 : (mU s3 45 L (spSc d b Db (w + 1) q)).1 7 ≤ 401 := by show s3.1 7 ≤ 401; rw [f3.1 7 (by decide) (by decide)]; exact h72
  have st4 : ax_st (mH h s3) (some 56) 1 (Int32.ofInt L) (ax_I (Int32.ofInt (spSc d b Db (w + 1) q))) = some (mH h (mU s3 45 L (spSc d b Db (w + 1) q))) := mst_45 _ _ _ _ l0 L9
  generalize mU s3 45 L (spSc d b Db (w + 1) q) = s4 at *
  have R4 := rcx_of F4 R
  obtain ⟨s5, e5, rr5⟩ := E Da Db (rn + 1) (r + 1) (wn + 1) (w + 1) q (L + 1) s4 (m + 1) hn ha hb R4 (gN_of (fun j a b => rvF_17 F4 a b) g1) (gN_of (fun j a b => rvF_17 F4 a b) g2) (by omega) q0 q1 hS A4.1 (by omega) (by omega) A4.2.1 A4.2.2.2.2.2.2.2 (by omega)
  refine ⟨s4, s5, fun fuel => ?_, F4, K4, S4, A4, rr5⟩
  have b45 := A2.2.2.2.2.1
  have b44 := A2.2.2.2.1
  have c43 := A4.2.2.1
  have c44 := A4.2.2.2.1
  unfold elR
  rw [e1, j86, mgr_45, Option.bind_some, mld_45 _ _ _ l0 L9, Option.bind_some, b45, Option.bind_some, mgr_18, Option.bind_some, mgr_44, Option.bind_some, mld_44 _ _ _ l0 L9, Option.bind_some, b44, mld_18 _ _ _ (show 0 ≤ wn by omega) (by omega), Option.bind_some, z18, x2, mS_on, pl_ci (show ax_F (m + 7) 194 [ax_A (some 24), ax_I (Int32.ofInt (wn + 1)), ax_I (Int32.ofInt q)] (mH h s2) = _ from e3), st4, Option.bind_some, mgr_18, Option.bind_some, mgr_43, Option.bind_some, mld_43 _ _ _ l0 L9, Option.bind_some, c43, mld_18 _ _ _ r0 (by omega), Option.bind_some, z184, x1, Option.bind_some, mgr_44, Option.bind_some, mld_44 _ _ _ l0 L9, Option.bind_some, c44, mld_18 _ _ _ (show 0 ≤ wn by omega) (by omega), Option.bind_some, z184, x2, mS_on, pl_cv (show ax_F (m + 7) 203 [ax_A (some 24), ax_I (Int32.ofInt (rn + 1)), ax_I (Int32.ofInt (wn + 1)), ax_I (Int32.ofInt q)] (mH h s4) = _ from e5)]
  rfl
/-- what stays while an array is told -/
def arX (s : mS) (N : Nat) (b c d : Int → Int) (N0 N1 rn r wn w : Int) (Da Db : Nat) : Prop := rcx s N b c d N0 N1 ∧ s.2.2.1 18 rn.toNat = rn + 1 ∧ gN s.2.2.1 c N0 Da (rn + 1) (r + 1) ∧ s.2.2.1 18 wn.toNat = wn + 1 ∧ gN s.2.2.1 d (120 + N1) Db (wn + 1) (w + 1) ∧ 0 ≤ rn ∧ 120 ≤ wn ∧ s.2.2.1 17 wn.toNat = 65
theorem arX_of {s s' : mS} {N : Nat} {b c d : Int → Int} {N0 N1 rn r wn w : Int} {Da Db : Nat} (F : rvF s s') (X : arX s N b c d N0 N1 rn r wn w Da Db) : arX s' N b c d N0 N1 rn r wn w Da Db := by
  obtain ⟨a1, a2, a3, a4, a5, a6, a7, a8⟩ := X
  have e18 := rvF_17 F (k := 18) (by decide) (by decide)
  have e17 := rvF_17 F (k := 17) (by decide) (by decide)
  exact ⟨rcx_of F a1, by rw [e18]; exact a2, gN_of (fun j a b => rvF_17 F a b) a3, by rw [e18]; exact a4, gN_of (fun j a b => rvF_17 F a b) a5, a6, a7, by rw [e17]; exact a8⟩
theorem rxE_s (f : Int → Int) (g : Int → Option (List Int)) (k : Nat) (fst : Bool) (q : Int) : rxE f g (k + 1) fst q = cat2 (some (if fst then [] else [44])) (cat2 (g q) (rxE f g k false (f q))) := rfl
/-- the loop's step at an element -/
theorem Me_lp {m : Nat} {h : ax_Hp} {s : mS} {L rn wn q lf dn : Int} {fuel : Nat} (A : aF s L rn wn q lf dn) (l0 : 0 ≤ L) (l1 : L < 10) (h7 : s.1 7 ≤ 400) (w0 : 0 ≤ wn) (w1 : wn < 240) (hk : s.2.2.1 17 wn.toNat = 65) (f0 : 0 < lf) (f1 : lf ≤ 1000) : lpR m h (fuel + 1) s = elR m h L fuel s := by
  rw [lp_step A.1 l0 l1 A.2.1 h7 A.2.2.2.2.2.2.2 A.2.2.2.1 w0 w1 hk (by omega) (by omega), if_pos rfl]
  unfold elR
  refine congrArg (fun z => ax_cv z (fun g => Model_resolve_lp23 (ax_F (m + 8)) fuel (some 24) g)) ?_
  rw [Model_tellElement_F]
  unfold Model_tellElement_b
  rw [mgi_48, Option.bind_some, A.1, show (1 : Int32) = Int32.ofInt 1 from rfl, zi_sub, show L + 1 - 1 = L by omega, mgr_46, Option.bind_some, mld_46 _ _ _ l0 l1, Option.bind_some, A.2.2.2.2.2.1, if_neg (show ¬ Int32.ofInt lf = 0 from by rw [zi_0, zi_eq (by omega) (by omega) (by omega) (by omega)]; omega)]
/-- the elements of a part -/
theorem Me_els {m N : Nat} {h : ax_Hp} {b c d : Int → Int} {N0 N1 rn r wn w L : Int} {n Da Db B : Nat} {rest : Option (List Int)} {P : mS → Prop} (E : simR m N h b c d N0 N1 n) (hn : Da + Db + 1 ≤ n) (ha : Da ≤ 6) (hb : Db ≤ 6) (l0 : 0 ≤ L) (hL : L + 1 + Da ≤ 6) : ∀ (k : Nat) (s : mS) (q dn : Int), arX s N b c d N0 N1 rn r wn w Da Db → aF s L rn wn q ((k + 1 : Nat) : Int) dn → k ≤ 50 → 0 ≤ dn → dn + k ≤ 80 → s.1 7 ≤ 400 → 0 ≤ q → q ≤ N → 0 ≤ seE (spSc d b Db (w + 1)) (k + 1) q → (∀ s', arX s' N b c d N0 N1 rn r wn w Da Db → aF s' L rn wn (seE (spSc d b Db (w + 1)) (k + 1) q) 0 (dn + k + 1) → s'.1 7 ≤ 400 → rr m h L (fun fuel => lpR m h fuel s') s' rest B P) → rr m h L (fun fuel => elR m h L fuel s) s (cat2 (rxE (spSc d b Db (w + 1)) (rsv c d b n Da Db (r + 1) (w + 1)) (k + 1) (decide (dn = 0)) q) rest) ((k + 1) * (kS Da + 1) + B) P
  | k, s, q, dn, X, A, k1, d0, d1, h7, q0, q1, hS, C => by
    obtain ⟨R, x1, g1, x2, g2, r0, w0, k17⟩ := id X
    have w1 := gN_k g2
    have n1 := R.2.2.2.2.1
    have eS : seE (spSc d b Db (w + 1)) (k + 1) q = if spSc d b Db (w + 1) q < 0 then spSc d b Db (w + 1) q else seE (spSc d b Db (w + 1)) k (spSc d b Db (w + 1) q) := rfl
    have fq : 0 ≤ spSc d b Db (w + 1) q := by
      rw [eS] at hS
      by_cases z : spSc d b Db (w + 1) q < 0
      · rw [if_pos z] at hS; omega
      · omega
    have fN := (spSc_b (c := d) R.1.2.2.1 Db (w + 1) q q0 q1).1 fq
    rw [eS, if_neg (by omega)] at hS C
    obtain ⟨s4, s5, e5, F4, K4, S4, A4, rr5⟩ := Me_one (k := k) E hn ha hb R x1 g1 x2 g2 r0 w0 q0 q1 fq l0 hL A (by omega) d0 (by omega) h7
    have X4 := arX_of F4 X
    have sp : (if decide (dn = 0) = true then ([] : List Int) else [44]) = sepL dn := by
      unfold sepL
      by_cases z : dn = 0
      · rw [decide_eq_true z, if_pos rfl, if_pos z]
      · rw [decide_eq_false z, if_neg (by decide), if_neg z]
    rw [rxE_s, cat2_a, cat2_a, sp]
    refine rr_pre ?_ F4 K4 S4
    have go : rr m h L (fun fuel => lpR m h fuel s5) s4 (cat2 (rsv c d b n Da Db (r + 1) (w + 1) q) (cat2 (rxE (spSc d b Db (w + 1)) (rsv c d b n Da Db (r + 1) (w + 1)) k false (spSc d b Db (w + 1) q)) rest)) (kS Da + (k * (kS Da + 1) + 1 + B)) P := by
      refine rr_seq rr5 (by omega) (fun s6 F6 K6 p6 h49 h7a h7b => ?_)
      have A6 := aF_k A4 l0 K6 p6 h49 (by have := A4.2.2.2.2.2.2.2; omega)
      have X6 := arX_of F6 X4
      cases k with
      | zero =>
        rw [show rxE (spSc d b Db (w + 1)) (rsv c d b n Da Db (r + 1) (w + 1)) 0 false (spSc d b Db (w + 1) q) = some [] from rfl, cat2_n]
        exact rr_B (C s6 X6 (by rw [show dn + ((0 : Nat) : Int) + 1 = dn + 1 by omega]; exact A6) h7b) (by omega)
      | succ k =>
        have I := Me_els (rest := rest) (B := B) (P := P) E hn ha hb l0 hL k s6 (spSc d b Db (w + 1) q) (dn + 1) X6 A6 (by omega) (by omega) (by omega) h7b (by omega) (by omega) hS (fun s' a1 a2 a3 => C s' a1 (by rw [show dn + ((k + 1 : Nat) : Int) + 1 = dn + 1 + (k : Int) + 1 by omega]; exact a2) a3)
        rw [decide_eq_false (show ¬ dn + 1 = 0 by omega)] at I
        exact rr_B (rr_st 1 I (fun fuel => Me_lp A6 l0 (by omega) h7b (by omega) (by omega) X6.2.2.2.2.2.2.2 (by omega) (by omega))) (by omega)
    refine rr_B (run := fun fuel => elR m h L fuel s) ?_ (show kS Da + (k * (kS Da + 1) + 1 + B) ≤ (k + 1) * (kS Da + 1) + B by rw [Nat.succ_mul]; omega)
    rw [show (fun fuel => elR m h L fuel s) = (fun fuel => lpR m h fuel s5) from funext e5]
    exact go
