theorem rxA_s (b f : Int → Int) (g : Int → Option (List Int)) (p left : Nat) (q : Int) : rxA b f g (p + 1) left q = if b q = 0 then some [93] else cat2 (rxE f g (b q / 2).toNat (decide (left = 20)) (q + 1)) (rxA b f g p (left - (b q / 2).toNat) (seE f (b q / 2).toNat (q + 1))) := rfl
/-- the parts of an array -/
theorem Me_prts {m N : Nat} {h : ax_Hp} {b c d : Int → Int} {N0 N1 rn r wn w L : Int} {n Da Db : Nat} (E : simR m N h b c d N0 N1 n) (hn : Da + Db + 1 ≤ n) (ha : Da ≤ 6) (hb : Db ≤ 6) (l0 : 0 ≤ L) (hL : L + 1 + Da ≤ 6) : ∀ (p left : Nat) (s : mS) (q : Int), left < p → left ≤ 20 → arX s N b c d N0 N1 rn r wn w Da Db → aF s L rn wn q 0 (20 - left) → s.1 7 ≤ 2000 → 0 ≤ q → q ≤ N → 0 ≤ spSa b (spSc d b Db (w + 1)) p left q → rr m h L (fun fuel => lpR m h fuel s) s (rxA b (spSc d b Db (w + 1)) (rsv c d b n Da Db (r + 1) (w + 1)) p left q) (p + left * (kS Da + 1) + 1) (fun x => x.1 48 = L)
  | 0, left, s, q, hl, _, _, _, _, _, _, _ => absurd hl (Nat.not_lt_zero _)
  | p + 1, left, s, q, hl, l20, X, A, h72, q0, q1, hS => by
    by_cases big : 400 < s.1 7
    · exact rr_B (rr_many A.2.1 big h72) (by omega)
    have h7 : s.1 7 ≤ 400 := by omega
    clear big
    obtain ⟨R, x1, g1, x2, g2, r0, w0, k17⟩ := id X
    have w1 := gN_k g2
    have n1 := R.2.2.2.2.1
    have n64 := R.1.2.1
    have bb := bSt_b R.1.2.2.1 q0
    have L9 : L < 10 := by omega
    rw [spSa_s] at hS
    by_cases cf : hfO b (left + 1) q
    · rw [if_pos cf] at hS
      obtain ⟨c1, c2, c3⟩ := id cf
      have lt := bb.2.2.1 c1
      have hf : hfO b 21 q := ⟨c1, c2, by omega⟩
      have hz := Model_half_z (m := m + 5) (h := h) (mm := 21) R.1 q0 q1 (by omega) (by omega)
      rw [if_pos hf, if_pos hf] at hz
      have e32 : (Int64.ofInt (b q / 2)).toInt32 = Int32.ofInt (b q / 2) := zl_32 (by omega) (by omega)
      have A2 := aF_46 (v := b q / 2) (aF_45 (v := q + 1) (aF_L (v := b q / 2) A))
      have F2 : rvF s (mU (mU (mL s (b q / 2)) 45 L (q + 1)) 46 L (b q / 2)) := (rvF_L _ _).trans ((rvF_U (by omega)).trans (rvF_U (by omega)))
      have K2 : rvK L s (mU (mU (mL s (b q / 2)) 45 L (q + 1)) 46 L (b q / 2)) := (rvK_of (s' := mL s (b q / 2)) (fun _ _ _ => rfl)).trans ((rvK_U (by omega)).trans (rvK_U (by omega)))
      have st : ∀ fuel, lpR m h (fuel + 1) s = ax_cv (if b q = 0 then ax_cv (ax_F (m + 7) 160 [ax_A (some 24), ax_I 93] (mH h (mU (mU (mL s (b q / 2)) 45 L (q + 1)) 46 L (b q / 2)))) (fun h45 => (ax_gi h45 (some 24) 9 48).bind fun v47 => (ax_pf h45 (some 24) 9 48 (ax_I (v47 - 1))).bind fun h48 => ax_rv h48) else Model_tellElement_jn71 (ax_F (m + 7)) (some 24) (Int32.ofInt L) (mH h (mU (mU (mL s (b q / 2)) 45 L (q + 1)) 46 L (b q / 2)))) (fun g => Model_resolve_lp23 (ax_F (m + 8)) fuel (some 24) g) := fun fuel => by
        rw [lp_step A.1 l0 L9 A.2.1 h7 A.2.2.2.2.2.2.2 A.2.2.2.1 (by omega) (by omega) k17 (by omega) (by omega), if_pos rfl]
        refine congrArg (fun z => ax_cv z (fun g => Model_resolve_lp23 (ax_F (m + 8)) fuel (some 24) g)) ?_
        rw [Model_tellElement_F]
        unfold Model_tellElement_b
        rw [mgi_48, Option.bind_some, A.1, show (1 : Int32) = Int32.ofInt 1 from rfl, zi_sub, show L + 1 - 1 = L by omega, mgr_46, Option.bind_some, mld_46 _ _ _ l0 L9, Option.bind_some, A.2.2.2.2.2.1, if_pos (show Int32.ofInt 0 = 0 from rfl), mgr_45, Option.bind_some, Option.bind_some, mld_45 _ _ _ l0 L9, Option.bind_some, A.2.2.2.2.1, mS_on, pl_ci (show ax_F (m + 7) 196 [ax_A (some 24), ax_I (Int32.ofInt q), ax_I 21] (mH h s) = _ from hz), mst_45 _ _ _ _ l0 L9, Option.bind_some, mgr_46, Option.bind_some, mgl_37, Option.bind_some, show (mU (mL s (b q / 2)) 45 L (q + 1)).2.1 = b q / 2 from rfl, e32, mst_46 _ _ _ _ l0 L9, Option.bind_some, mgr_46, Option.bind_some, mld_46 _ _ _ l0 L9, Option.bind_some, A2.2.2.2.2.2.1]
        by_cases z : b q = 0
        · rw [if_pos (show Int32.ofInt (b q / 2) = 0 from by rw [z]; rfl), if_pos z, mS_on]
        · rw [if_neg (show ¬ Int32.ofInt (b q / 2) = 0 from by rw [zi_0, zi_eq (by omega) (by omega) (by omega) (by omega)]; omega), if_neg z]
      rw [rxA_s]
      have h82 : (mU (mU (mL s (b q / 2)) 45 L (q + 1)) 46 L (b q / 2)).2.2.1 8 = s.2.2.1 8 := by rw [mU_ne _ _ _ _ _ (by decide), mU_ne _ _ _ _ _ (by decide)]; rfl
      have h712 : (mU (mU (mL s (b q / 2)) 45 L (q + 1)) 46 L (b q / 2)).1 7 = s.1 7 := rfl
      generalize mU (mU (mL s (b q / 2)) 45 L (q + 1)) 46 L (b q / 2) = s2 at *
      by_cases z : b q = 0
      · rw [if_pos z]
        obtain ⟨s3, e3, f3, sd3, -⟩ := Model_say_z (n := m + 6) (h := h) (s := s2) (x := 93) (by rw [h712]; exact A.2.2.2.2.2.2.2) (by omega)
        have l3 := said_1 sd3
        rw [List.length_singleton] at l3
        have A7 := A.2.2.2.2.2.2.2
        have k48 : s3.1 48 = L + 1 := (f3.1 48 (by decide)).trans A2.1
        have sd4 : said s (mI s3 48 L) [93] := by
          have := ((said_0 h712 h82).trans sd3).trans (said_0 (s' := mI s3 48 L) rfl rfl)
          rw [List.append_nil, List.nil_append] at this
          exact this
        have := rr_end (m := m) (h := h) (L := L) (P := fun x => x.1 48 = L) (F2.trans (f3.rv.trans (rvF_I (s := s3) (v := L) (Or.inr (Or.inr (Or.inr (Or.inr (Or.inr (Or.inr (Or.inr (Or.inl rfl))))))))))) (K2.trans ((f3.rk L).trans (rvK_of (s' := mI s3 48 L) (fun _ _ _ => rfl)))) (show (mI s3 48 L).1 49 = 0 from (f3.1 49 (by decide)).trans A2.2.1) sd4 (show 0 ≤ s3.1 7 by omega) (show s3.1 7 ≤ 2000 by omega) rfl
        refine rr_B (rr_st 1 this (fun fuel => ?_)) (by omega)
        show lpR m h (fuel + 1) s = _
        rw [st, if_pos z, pl_cv (show ax_F (m + 7) 160 [ax_A (some 24), ax_I 93] (mH h s2) = _ from e3), mgi_48, Option.bind_some, k48, show (1 : Int32) = Int32.ofInt 1 from rfl, zi_sub, show L + 1 - 1 = L by omega, mpf_48, Option.bind_some]
        rfl
      · rw [if_neg z]
        rw [if_neg z] at hS
        obtain ⟨k, hk⟩ : ∃ k, (b q / 2).toNat = k + 1 := ⟨(b q / 2).toNat - 1, by omega⟩
        rw [hk] at hS ⊢
        have kb : ((k + 1 : Nat) : Int) = b q / 2 := by omega
        have hS2 : 0 ≤ seE (spSc d b Db (w + 1)) (k + 1) (q + 1) := by
          by_cases y : seE (spSc d b Db (w + 1)) (k + 1) (q + 1) < 0
          · rw [if_pos y] at hS; omega
          · omega
        rw [if_neg (by omega)] at hS
        have sb := (seE_b (N := N) (f := spSc d b Db (w + 1)) (fun q a e => spSc_b R.1.2.2.1 Db (w + 1) q a e) (k + 1) (q + 1) (by omega) (by omega)).1 hS2
        have X2 := arX_of F2 X
        have I := Me_els (rest := rxA b (spSc d b Db (w + 1)) (rsv c d b n Da Db (r + 1) (w + 1)) p (left - (k + 1)) (seE (spSc d b Db (w + 1)) (k + 1) (q + 1))) (B := p + (left - (k + 1)) * (kS Da + 1) + 1) (P := fun x => x.1 48 = L) E hn ha hb l0 hL k s2 (q + 1) (20 - left) X2 (by rw [kb]; exact A2) (by omega) (by omega) (by omega) (by omega) (by omega) (by omega) hS2 (fun s' a1 a2 a3 => Me_prts E hn ha hb l0 hL p (left - (k + 1)) s' _ (by omega) (by omega) a1 (by rw [show (20 : Int) - ((left - (k + 1) : Nat) : Int) = 20 - (left : Int) + k + 1 by omega]; exact a2) (by omega) (by omega) (by omega) hS)
        have d1 : decide ((20 : Int) - left = 0) = decide (left = 20) := by
          by_cases y : left = 20
          · rw [decide_eq_true y, decide_eq_true (by omega)]
          · rw [decide_eq_false y, decide_eq_false (by omega)]
        rw [d1] at I
        have ml : left * (kS Da + 1) = (k + 1) * (kS Da + 1) + (left - (k + 1)) * (kS Da + 1) := by rw [← Nat.add_mul, show k + 1 + (left - (k + 1)) = left by omega]
        refine rr_sil (rr_B (rr_st 1 I (fun fuel => ?_)) (by omega)) F2 K2 h712 h82
        show lpR m h (fuel + 1) s = _
        rw [st, if_neg z]
        rfl
    · rw [if_neg cf] at hS; omega
