/-- what is said of the fields that are left -/
def rxG (g : Int → Option (List Int)) : List Int → Option (List Int)
  | [] => some [125]
  | x :: l => cat2 (some [44]) (rxF g (x :: l))
theorem rxF_c (g : Int → Option (List Int)) (x : Int) (l : List Int) : rxF g (x :: l) = cat2 (g x) (rxG g l) := by cases l <;> rfl
/-- the fields -/
theorem Mf_all {m N : Nat} {h : ax_Hp} {b c d : Int → Int} {N0 N1 rn wn q L lf : Int} {n Da Db : Nat} {gl : List Int} (E : simR m N h b c d N0 N1 n) (hn : Da + Db + 1 ≤ n) (ha : Da ≤ 6) (hb : Db ≤ 6) (l0 : 0 ≤ L) (hL : L + 1 + Da ≤ 6) : ∀ (l : List Int) (fn : Int) (s : mS) (dn : Int), fdZ s N b c d N0 N1 rn wn q Da Db gl → ndCh (s.2.2.1 19) (fQ s.2.2.1 c N0 Da rn) fn l → (∀ x ∈ l, 0 ≤ x ∧ 0 ≤ spFe c (spTy c Da) (spVal c c false Da) x) → aF s L fn wn q lf dn → s.1 7 ≤ 2000 → 0 ≤ dn → dn + l.length ≤ 50 → (dn = 0 → l ≠ []) → rr m h L (fun fuel => lpR m h fuel s) s (if dn = 0 then rxF (fdG c d b n Da Db gl q) l else rxG (fdG c d b n Da Db gl q) l) (l.length * (kS Da + 1) + 2) (fun x => x.1 48 = L)
  | [], fn, s, dn, X, C, hx, A, h72, d0, d1, dz => by
    have z : ¬ dn = 0 := fun z => dz z rfl
    have L9 : L < 10 := by omega
    obtain ⟨R, -, -, -, -, w0, w1, k17, -⟩ := X
    by_cases big : 400 < s.1 7
    · exact rr_B (rr_many A.2.1 big h72) (by omega)
    have h7 : s.1 7 ≤ 400 := by omega
    have C : fn = -1 := C
    rw [if_neg z, show rxG (fdG c d b n Da Db gl q) [] = some [125] from rfl]
    obtain ⟨s3, e3, f3, sd3, -⟩ := Model_say_z (n := m + 6) (h := h) (s := s) (x := 125) A.2.2.2.2.2.2.2 (by omega)
    have l3 := said_1 sd3
    rw [List.length_singleton] at l3
    have A7 := A.2.2.2.2.2.2.2
    have k48 : s3.1 48 = L + 1 := (f3.1 48 (by decide)).trans A.1
    have sd4 : said s (mI s3 48 L) [125] := by
      have := sd3.trans (said_0 (s' := mI s3 48 L) rfl rfl)
      rw [List.append_nil] at this
      exact this
    have := rr_end (m := m) (h := h) (L := L) (P := fun x => x.1 48 = L) (f3.rv.trans (rvF_I (s := s3) (v := L) (Or.inr (Or.inr (Or.inr (Or.inr (Or.inr (Or.inr (Or.inr (Or.inl rfl)))))))))) ((f3.rk L).trans (rvK_of (s' := mI s3 48 L) (fun _ _ _ => rfl))) (show (mI s3 48 L).1 49 = 0 from (f3.1 49 (by decide)).trans A.2.1) sd4 (show 0 ≤ s3.1 7 by omega) (show s3.1 7 ≤ 2000 by omega) rfl
    refine rr_B (rr_st 1 this (fun fuel => ?_)) (by omega)
    show lpR m h (fuel + 1) s = _
    rw [lp_step A.1 l0 L9 A.2.1 h7 A.2.2.2.2.2.2.2 A.2.2.2.1 (by omega) w1 k17 (by omega) (by omega), if_neg (by decide), Model_tellField_F]
    unfold Model_tellField_b
    rw [mgi_48, Option.bind_some, A.1, show (1 : Int32) = Int32.ofInt 1 from rfl, zi_sub, show L + 1 - 1 = L by omega, mgr_43, Option.bind_some, mld_43 _ _ _ l0 L9, Option.bind_some, A.2.2.1, C, if_neg (show ¬ (0 : Int32) ≤ Int32.ofInt (-1) from by decide), mS_on, pl_cv (show ax_F (m + 7) 160 [ax_A (some 24), ax_I 125] (mH h s) = _ from e3), mgi_48, Option.bind_some, k48, zi_sub, show L + 1 - 1 = L by omega, mpf_48, Option.bind_some]
    rfl
  | x :: l, fn, s, dn, X, C, hx, A, h72, d0, d1, dz => by
    by_cases big : 400 < s.1 7
    · exact rr_B (rr_many A.2.1 big h72) (by omega)
    have h7 : s.1 7 ≤ 400 := by omega
    rw [List.length_cons] at d1 ⊢
    obtain ⟨c1, c2, c3, c4⟩ := C
    obtain ⟨x0, xF⟩ := hx x List.mem_cons_self
    obtain ⟨s4, s5, e5, F4, K4, S4, A4, rr5⟩ := Mf_one E hn ha hb X x0 xF c3 c1 l0 hL A d0 (by omega) h7
    have eo : (if dn = 0 then rxF (fdG c d b n Da Db gl q) (x :: l) else rxG (fdG c d b n Da Db gl q) (x :: l)) = cat2 (some (sepL dn)) (cat2 (fdG c d b n Da Db gl q x) (rxG (fdG c d b n Da Db gl q) l)) := by
      unfold sepL
      by_cases z : dn = 0
      · rw [if_pos z, if_pos z, cat2_n, rxF_c]
      · rw [if_neg z, if_neg z, ← rxF_c]
        rfl
    rw [eo]
    have X4 := fdZ_of F4 X
    have go : rr m h L (fun fuel => lpR m h fuel s5) s4 (cat2 (fdG c d b n Da Db gl q x) (rxG (fdG c d b n Da Db gl q) l)) (kS Da + (l.length * (kS Da + 1) + 2)) (fun x => x.1 48 = L) := by
      refine rr_seq rr5 (by omega) (fun s6 F6 K6 p6 h49 h7a h7b => ?_)
      have A6 := aF_k A4 l0 K6 p6 h49 (by have := A4.2.2.2.2.2.2.2; omega)
      have F46 := F4.trans F6
      have I := Mf_all E hn ha hb l0 hL l (s.2.2.1 19 fn.toNat) s6 (dn + 1) (fdZ_of F6 X4) (fQ_ch (fun k a b => rvF_17 F46 a b) c4) (fun y hy => hx y (List.mem_cons_of_mem _ hy)) A6 (by omega) (by omega) (by omega) (fun z => by omega)
      rw [if_neg (show ¬ dn + 1 = 0 by omega)] at I
      exact I
    have go2 := rr_pre go F4 K4 S4
    refine rr_B (rr_st 1 go2 e5) ?_
    rw [Nat.succ_mul]
    omega
/-- the core of tell does what the text says -/
def corR (m N : Nat) (h : ax_Hp) (b c d : Int → Int) (N0 N1 : Int) (n : Nat) : Prop := ∀ (D1 D2 : Nat) (rn r wn w q L : Int) (s : mS) (m' : Nat), D1 + D2 ≤ n → D1 ≤ 6 → D2 ≤ 6 → rcx s N b c d N0 N1 → gN s.2.2.1 c N0 D1 rn r → gN s.2.2.1 d (120 + N1) D2 wn w → 120 ≤ wn → 0 ≤ q → q ≤ N → 0 ≤ spSc d b D2 w q → s.1 48 = L → 0 ≤ L → L + D1 ≤ 6 → s.1 49 = 0 → 0 ≤ s.1 7 → s.1 7 ≤ 404 → c r ≠ 85 → d w ≠ 85 → ∃ s', Model_tell_jn128 (ax_F (m' + 5)) (some 24) (Int32.ofInt rn) (Int32.ofInt wn) (Int32.ofInt q) (mH h s) = some (.inl none, mH h s') ∧ rr m h L (fun fuel => lpR m h fuel s') s (rsv c d b (n + 1) D1 D2 r w q) (kS D1) (fun x => x.1 48 = L)
theorem corR_of {m N : Nat} {h : ax_Hp} {b c d : Int → Int} {N0 N1 : Int} {n : Nat} (E : simR m N h b c d N0 N1 n) : corR m N h b c d N0 N1 n := by
  intro D1 D2 rn r wn w q L s m' hn h1 h2 R g1 g2 w120 q0 q1 hS h48 l0 hL h49 h70 h7 cU dU
  have L9 : L < 10 := by omega
  have k2 := kS_2 D1
  obtain ⟨s', e, p⟩ := Mt_core (m := m') (h := h) R g1 g2 dU q0 q1 hS h48 l0 L9 h70 (by omega)
  refine ⟨s', e, ?_⟩
  rw [rsv_s, if_neg dU, if_neg cU]
  rcases p with ⟨dA, cA, p⟩ | ⟨dR, cR, p⟩ | ⟨dh, ne, p⟩ | ⟨nA, nR, s1, p1, p2, p3, p4, p5⟩
  · obtain ⟨F, K, S, p48, p49, p43, p44, p45, p46, p47⟩ := p
    obtain ⟨Da, hDa, x1, y1⟩ := gN_A g1 cA
    obtain ⟨Db, hDb, x2, y2⟩ := gN_A g2 dA
    subst hDa
    subst hDb
    have l := said_1 S
    rw [List.length_singleton] at l
    rw [if_pos (Or.inl (by omega)), if_pos dA, show Da + 1 - 1 = Da from rfl, show Db + 1 - 1 = Db from rfl]
    rw [spSc_A1 dA] at hS
    have gk := gN_k g1
    have X : arX s N b c d N0 N1 rn r wn w Da Db := ⟨R, x1, y1, x2, y2, gk.1, w120, by rw [(gN_k g2).2.2.2.2.2.1]; exact dA⟩
    have A : aF s' L rn wn q 0 (20 - ((20 : Nat) : Int)) := ⟨p48, p49.trans h49, p43, p44, p45, p46, by rw [p47]; rfl, by omega⟩
    exact rr_B (rr_pre (Me_prts E (by omega) (by omega) (by omega) l0 (by omega) 21 20 s' q (by omega) (by omega) (arX_of F X) A (by omega) q0 q1 hS) F K S) (by rw [kS_s]; omega)
  · obtain ⟨F, K, S, p48, p49, p43, p44, p45, p46, p47⟩ := p
    have z0 := R.2.1.1
    have z1 := R.2.2.1.1
    have zc := R.2.1.2.2.2.1
    have zd := R.2.2.1.2.2.2.1
    have n0 := R.2.2.2.1
    have n1 := R.2.2.2.2.1
    obtain ⟨Da, hDa, a1, a2, a3, a4⟩ := gN_R z0 zc (by omega) g1 cR
    obtain ⟨Db, hDb, b1, b2, b3, b4⟩ := gN_R z1 zd (by omega) g2 dR
    obtain ⟨nd, nn⟩ := gN_nd z1 zd g2 dR
    subst hDa
    subst hDb
    have l := said_1 S
    rw [List.length_singleton] at l
    obtain ⟨-, -, pr⟩ := spPt_R z0 zc g1.2.2.1 g1.2.2.2 cR
    rw [if_pos (Or.inl (by omega)), if_neg (by omega), if_pos dR]
    rw [spSc_R1 dR] at hS
    have gk := gN_k g2
    have r00 := g1.2.2.1
    have X : fdZ s N b c d N0 N1 rn wn q Da Db (spPt d (Db + 1) w) := ⟨R, b4, b2, nd, nn, w120, by omega, by rw [gk.2.2.2.2.2.1]; exact dR, q0, q1, hS⟩
    have A : aF s' L (s.2.2.1 18 rn.toNat) wn q 0 0 := ⟨p48, p49.trans h49, p43, p44, p45, p46, p47, by omega⟩
    have C : ndCh (s'.2.2.1 19) (fQ s'.2.2.1 c N0 Da rn) (s.2.2.1 18 rn.toNat) (spPt c (Da + 1) r) := fQ_ch (fun k a b => rvF_17 F a b) a4
    have I := Mf_all E (by omega) (by omega) (by omega) l0 (by omega) (spPt c (Da + 1) r) (s.2.2.1 18 rn.toNat) s' 0 (fdZ_of F X) C (fun y hy => ⟨by have := (pr y hy).1; omega, (pr y hy).2.2.2.2.1⟩) A (by omega) (by omega) (by omega) (fun _ => a3)
    rw [if_pos rfl] at I
    have ml : (spPt c (Da + 1) r).length * (kS Da + 1) ≤ 6 * (kS Da + 1) := Nat.mul_le_mul_right _ a2
    exact rr_B (rr_pre I F K S) (by rw [kS_s]; omega)
  · subst p
    rw [if_neg (fun z => by rcases z with z | z; exact ne z; omega)]
    exact rr_B (rr_no (rvF_I (by omega)) rfl h70 (by show s.1 7 ≤ 2000; omega)) (by omega)
  · rw [if_neg nA, if_neg nR]
    generalize (if c r = d w ∨ (d w = 73 ∧ c r = 76) then rxP c d b r w q else none) = o at *
    subst p1
    cases o with
    | none => exact rr_B (rr_no (p2.rv.trans (rvF_I (by omega))) rfl p4 (by show s1.1 7 ≤ 2000; omega)) (by omega)
    | some k =>
      have sd : said s (mI s1 49 (1 - bI (some k).isSome)) k := by
        have := (p3 k rfl).trans (said_0 (s' := mI s1 49 (1 - bI (some k).isSome)) rfl rfl)
        rw [List.append_nil] at this
        exact this
      exact rr_B (rr_end (p2.rv.trans (rvF_I (by omega))) ((p2.rk L).trans (rvK_of (s' := mI s1 49 (1 - bI (some k).isSome)) (fun _ _ _ => rfl))) rfl sd p4 (by show s1.1 7 ≤ 2000; omega) ((p2.1 48 (by decide)).trans h48)) (by omega)
theorem kS_m (D : Nat) : kS D ≤ kS (D + 1) := by rw [kS_s]; omega
/-- tell, where the writer's type is no U -/
def j43R (m N : Nat) (h : ax_Hp) (b c d : Int → Int) (N0 N1 : Int) (n : Nat) : Prop := ∀ (D1 D2 : Nat) (rn r wn w q L : Int) (s : mS) (m' : Nat), D1 + D2 ≤ n → D1 ≤ 6 → D2 ≤ 6 → rcx s N b c d N0 N1 → gN s.2.2.1 c N0 D1 rn r → gN s.2.2.1 d (120 + N1) D2 wn w → 120 ≤ wn → 0 ≤ q → q ≤ N → 0 ≤ spSc d b D2 w q → s.1 48 = L → 0 ≤ L → L + D1 ≤ 6 → s.1 49 = 0 → 0 ≤ s.1 7 → s.1 7 ≤ 402 → d w ≠ 85 → ∃ s', Model_tell_jn43 (ax_F (m' + 5)) (some 24) (Int32.ofInt rn) (Int32.ofInt wn) (Int32.ofInt q) (mH h s) = some (.inl none, mH h s') ∧ rr m h L (fun fuel => lpR m h fuel s') s (rsv c d b (n + 1) D1 D2 r w q) (kS D1) (fun x => x.1 48 = L)
theorem j43R_of {m N : Nat} {h : ax_Hp} {b c d : Int → Int} {N0 N1 : Int} {n : Nat} (E : ∀ k, k ≤ n → corR m N h b c d N0 N1 k) : j43R m N h b c d N0 N1 n := by
  intro D1 D2 rn r wn w q L s m' hn h1 h2 R g1 g2 w120 q0 q1 hS h48 l0 hL h49 h70 h7 dU
  obtain ⟨r0, r1, L1⟩ := gN_k g1
  have n0 := R.2.2.2.1
  have n1 := R.2.2.2.2.1
  have cb := R.2.1.2.2.2.2 r
  have zc := R.2.1.2.2.2.1
  have gw := gN_k g2
  have ldr : ax_ldi (mH h s) (some 36) 3 (Int32.ofInt rn) = some (Int32.ofInt (c r)) := by rw [mld_17 h s _ r0 (by omega), L1.2.2.2.1]
  unfold Model_tell_jn43
  rw [mgr_17, Option.bind_some, ldr, Option.bind_some]
  by_cases cU : c r = 85
  · rw [if_pos (show Int32.ofInt (c r) = 85 from by rw [cU]; rfl), mgr_18, Option.bind_some, mld_18 _ _ _ r0 (by omega), Option.bind_some]
    obtain ⟨D', hD, a1, a2, a3, a4⟩ := gN_U zc (by omega) g1 cU
    subst hD
    obtain ⟨-, -, pu⟩ := spPt_U zc g1.2.2.1 g1.2.2.2 cU
    obtain ⟨n', rfl⟩ : ∃ n', n = n' + 1 := ⟨n - 1, by omega⟩
    obtain ⟨ix, nb, f1, f2⟩ := Mt_find (m := m' + 4) (h := h) (s := s) (q := q) (p := fun y => crd c d 13 D' D2 y w) (k := wn - 120) (by omega) (by omega) (fun j x hj => by
      obtain ⟨j1, j2, _⟩ := gN_k hj.2
      exact ⟨j1, by omega, R.2.2.2.2.2 j (wn - 120) j1 j2 (by omega) (by omega) D' x D2 w 13 hj.2 (by rw [show 120 + (wn - 120) = wn by omega]; exact g2) (by omega)⟩) (spPt c (D' + 1) r) (s.2.2.1 18 rn.toNat) 0 ax_fuel (by omega) a4 (by unfold ax_fuel; omega)
    rw [show 120 + (wn - 120) = wn by omega] at f1
    rw [rsv_s, if_neg dU, if_pos cU, show D' + 1 - 1 = D' from rfl]
    rcases f2 with ⟨f2, f3⟩ | ⟨f2, f3, f4, f5, f6⟩
    · rw [if_pos f2]
      subst f3
      have k2 := kS_2 (D' + 1)
      refine ⟨mI s 49 1, ?_, rr_B (rr_no (rvF_I (by omega)) rfl h70 (by show s.1 7 ≤ 2000; omega)) (by omega)⟩
      refine f1.trans ?_
      unfold Model_tell_jn98
      rw [if_neg (show ¬ (0 : Int32) ≤ Int32.ofInt (-1) from by decide), show ax_pz (mH h s) (some 24) 9 49 1 = some (mH h (mI s 49 1)) from mpz_49 h s 1 (Or.inr rfl), Option.bind_some]
      rfl
    · rw [if_neg f2, ← f3]
      rw [show ix - ((0 : Nat) : Int) = ix by omega] at f5 f6
      have fk := gN_k f6.2
      have mem : (spPt c (D' + 1) r).getD ix.toNat 0 ∈ spPt c (D' + 1) r := getD_mem (by omega)
      obtain ⟨s1, e1, v1, t1, -⟩ := Model_say_z (n := m' + 4) (h := h) (s := s) (x := 48 + ix) h70 (by omega)
      have l1 := said_1 t1
      rw [List.length_singleton] at l1
      obtain ⟨s2, e2, v2, t2, -⟩ := Model_say_z (n := m' + 4) (h := h) (s := s1) (x := 58) (by omega) (by omega)
      have l2 := said_1 t2
      rw [List.length_singleton] at l2
      have F2 := v1.rv.trans v2.rv
      obtain ⟨s3, e3, r3⟩ := E n' (by omega) D' D2 nb ((spPt c (D' + 1) r).getD ix.toNat 0) wn w q L s2 m' (by omega) (by omega) h2 (rcx_of F2 R) (gN_of (fun k a b => rvF_17 F2 a b) f6.2) (gN_of (fun k a b => rvF_17 F2 a b) g2) w120 q0 q1 hS ((v2.1 48 (by decide)).trans ((v1.1 48 (by decide)).trans h48)) l0 (by omega) ((v2.1 49 (by decide)).trans ((v1.1 49 (by decide)).trans h49)) (by omega) (by omega) (pu _ mem).2.2.1 dU
      refine ⟨s3, ?_, rr_B (rr_pre r3 F2 ((v1.rk L).trans (v2.rk L)) (t1.trans t2)) (kS_m D')⟩
      refine f1.trans ?_
      unfold Model_tell_jn98
      rw [if_pos (show (0 : Int32) ≤ Int32.ofInt nb from by rw [zi_0, zi_le (by omega) (by omega) (by omega) (by omega)]; omega), mS_on, show (48 : Int32) = Int32.ofInt 48 from rfl, zi_add, pl_cv e1, mS_on, pl_cv (show ax_F (m' + 4 + 1) 160 [ax_A (some 24), ax_I 58] (mH h s1) = _ from e2)]
      exact e3
  · rw [if_neg (show ¬ Int32.ofInt (c r) = 85 from by rw [show (85 : Int32) = Int32.ofInt 85 from rfl, zi_eq (by omega) (by omega) (by omega) (by omega)]; exact cU)]
    exact E n (Nat.le_refl _) D1 D2 rn r wn w q L s m' hn h1 h2 R g1 g2 w120 q0 q1 hS h48 l0 hL h49 h70 (by omega) cU dU
theorem simR_of {m N : Nat} {h : ax_Hp} {b c d : Int → Int} {N0 N1 : Int} {n : Nat} (E : ∀ k, k ≤ n → j43R m N h b c d N0 N1 k) : simR m N h b c d N0 N1 (n + 1) := by
  intro D1 D2 rn r wn w q L s m' hn h1 h2 R g1 g2 w120 q0 q1 hS h48 l0 hL h49 h70 h7
  obtain ⟨w0, w1, L2⟩ := gN_k g2
  have n1 := R.2.2.2.2.1
  have db := R.2.2.1.2.2.2.2 w
  have zd := R.2.2.1.2.2.2.1
  have n64 := R.1.2.1
  have bb := bSt_b R.1.2.2.1 q0
  have ldw : ax_ldi (mH h s) (some 36) 3 (Int32.ofInt wn) = some (Int32.ofInt (d w)) := by rw [mld_17 h s _ w0 (by omega), L2.2.2.2.1]
  rw [Model_tell_F]
  unfold Model_tell_b
  rw [mgr_17, Option.bind_some, ldw, Option.bind_some]
  by_cases dU : d w = 85
  · rw [if_pos (show Int32.ofInt (d w) = 85 from by rw [dU]; rfl)]
    obtain ⟨D', hD, a1, a2, a3, a4⟩ := gN_U zd (by omega) g2 dU
    subst hD
    obtain ⟨-, -, pu⟩ := spPt_U zd g2.2.2.1 g2.2.2.2 dU
    obtain ⟨n', rfl⟩ : ∃ n', n = n' + 1 := ⟨n - 1, by omega⟩
    rw [spSc_U1 dU] at hS
    by_cases cf : hfO b (spPt d (D' + 1) w).length q
    · rw [if_pos cf] at hS
      obtain ⟨c1, c2, c3⟩ := id cf
      have lt := bb.2.2.1 c1
      have hf : hfO b 4 q := ⟨c1, c2, by omega⟩
      have hz := Model_half_z (m := m' + 3) (h := h) (mm := 4) R.1 q0 q1 (by omega) (by omega)
      rw [if_pos hf, if_pos hf] at hz
      have e32 : (Int64.ofInt (b q / 2)).toInt32 = Int32.ofInt (b q / 2) := zl_32 (by omega) (by omega)
      obtain ⟨b', eb, b0, b1, nb⟩ := Model_branch_z (m := m' + 4) (h := h) (s := mL s (b q / 2)) (n := wn) (num := b q / 2) w0 (by omega) (show ndCh (s.2.2.1 19) _ (s.2.2.1 18 wn.toNat) (spPt d (D' + 1) w) from a4) (by omega) c3 (by omega)
      have mem : (spPt d (D' + 1) w).getD (b q / 2).toNat 0 ∈ spPt d (D' + 1) w := getD_mem (by omega)
      have F : rvF s (mL s (b q / 2)) := rvF_L _ _
      obtain ⟨s', e', r'⟩ := E n' (by omega) D1 D' rn r b' ((spPt d (D' + 1) w).getD (b q / 2).toNat 0) (q + 1) L (mL s (b q / 2)) m' (by omega) h1 (by omega) (rcx_of F R) g1 nb.2 (by have := nb.1; omega) (by omega) (by omega) hS h48 l0 hL h49 h70 h7 (pu _ mem).2.2.1
      rw [rsv_s, if_pos dU, show D' + 1 - 1 = D' from rfl]
      refine ⟨s', ?_, rr_sil r' F (rvK_of (s' := mL s (b q / 2)) (fun _ _ _ => rfl)) rfl rfl⟩
      rw [mS_on, pl_ci (show ax_F (m' + 5) 196 [ax_A (some 24), ax_I (Int32.ofInt q), ax_I 4] (mH h s) = _ from hz), mgl_37, Option.bind_some, show (mL s (b q / 2)).2.1 = b q / 2 from rfl, e32, mS_on, pl_ci (show ax_F (m' + 5) 161 [ax_A (some 24), ax_I (Int32.ofInt wn), ax_I (Int32.ofInt (b q / 2))] (mH h (mL s (b q / 2))) = _ from eb)]
      exact e'
    · rw [if_neg cf] at hS; omega
  · rw [if_neg (show ¬ Int32.ofInt (d w) = 85 from by rw [show (85 : Int32) = Int32.ofInt 85 from rfl, zi_eq (by omega) (by omega) (by omega) (by omega)]; exact dU)]
    exact E n (Nat.le_refl _) D1 D2 rn r wn w q L s m' (by omega) h1 h2 R g1 g2 w120 q0 q1 hS h48 l0 hL h49 h70 h7 dU
/-- the reference resolves as the text says -/
theorem simR_all {m N : Nat} {h : ax_Hp} {b c d : Int → Int} {N0 N1 : Int} (n : Nat) : ∀ k, k ≤ n → simR m N h b c d N0 N1 k := by
  induction n with
  | zero =>
    intro k hk D1 D2 rn r wn w q L s m' hn
    omega
  | succ n ih =>
    intro k hk
    by_cases q : k ≤ n
    · exact ih k q
    · have : k = n + 1 := by omega
      subst this
      exact simR_of (fun j hj => j43R_of (fun i hi => corR_of (ih i (by omega))))
