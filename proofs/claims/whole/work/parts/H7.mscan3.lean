theorem spSf_s (f : Int → Int → Int) (x : Int) (l : List Int) (q : Int) : spSf f (x :: l) q = if f (x + 2) q < 0 then f (x + 2) q else spSf f l (f (x + 2) q) := rfl
/-- the fields of a record -/
theorem simS_flds {m : Nat} {h : ax_Hp} {c b : Int → Int} {N D : Nat} (E : simS m h c b N D (meS m h) (fun _ => True)) {d n : Int} (n0 : 0 ≤ n) (n1 : n < 240) (d0 : 0 ≤ d) (hD : d + 1 + D ≤ 9) : ∀ (l : List Int) (s : mS) (q pn : Int), l ≠ [] → (∀ x ∈ l, 0 ≤ spTy c D (x + 2)) → isS s N b → s.1 31 = d + 1 → s.1 38 = 2 → s.2.2.1 32 d.toNat = n → s.2.2.1 17 n.toNat = 82 → s.2.2.1 33 d.toNat = pn → ndCh (s.2.2.1 19) (fdP s.2.2.1 c D) pn l → 0 ≤ q → q ≤ N →
    (0 ≤ spSf (spSc c b D) l q → ∃ (K : Nat) (s' : mS), K ≤ l.length * (kS D + 2) ∧ (∀ fuel, lpS m h (fuel + K) q s = lpS m h fuel (spSf (spSc c b D) l q) s') ∧ scF s s' ∧ s'.1 31 = d ∧ s'.1 38 = 1 ∧ scK d s s') ∧
    (spSf (spSc c b D) l q < 0 → ∃ (K : Nat) (s' : mS), K ≤ l.length * (kS D + 2) ∧ (∀ fuel, lpS m h (fuel + K) q s = some (.inl (some (ax_I (Int32.ofInt (spSf (spSc c b D) l q)))), mH h s')) ∧ scF s s')
  | [], s, q, pn, hl, _, _, _, _, _, _, _, _, _, _ => absurd rfl hl
  | x :: l, s, q, pn, _, hT, S, h31, h38, h32, hk, h33, C, q0, q1 => by
    have n64 := S.2.1
    obtain ⟨p0, p1, ⟨-, -, Nn⟩, C'⟩ := C
    have B := spSc_b (c := c) S.2.2.1 D (x + 2) q q0 q1
    obtain ⟨E1, E2⟩ := E s (d + 1) q pn (x + 2) trivial S h31 (by omega) hD Nn (hT x List.mem_cons_self) q0 q1
    have st : ∀ fuel, lpS m h (fuel + 1) q s = meS m h fuel pn q s := fun fuel => lp_2 q0 (by omega) h38 h31 d0 (by omega) h33
    rw [spSf_s, List.length_cons, mul_s]
    by_cases c1 : spSc c b D (x + 2) q < 0
    · rw [if_pos c1]
      refine ⟨fun z => absurd z (by omega), fun _ => ?_⟩
      obtain ⟨K, s', a1, a2, a3⟩ := E2 c1
      clear E1 E2
      exact ⟨K + 1, s', by omega, fun fuel => by rw [← Nat.add_assoc, st, a2], a3⟩
    · rw [if_neg c1]
      have b1 := B.1 (by omega)
      obtain ⟨K, s1, a1, a2, F, f31, f38, fK⟩ := E1 (by omega)
      clear E1 E2
      generalize spSc c b D (x + 2) q = e at *
      generalize hnx : s.2.2.1 19 pn.toNat = nx at *
      have g32 : s1.2.2.1 32 d.toNat = n := (fK 32 (by omega) _ (by omega)).trans h32
      have g33 : s1.2.2.1 33 d.toNat = pn := (fK 33 (by omega) _ (by omega)).trans h33
      have g17 : s1.2.2.1 17 n.toNat = 82 := by rw [scF_17 F (by decide) (by decide)]; exact hk
      have g19 : s1.2.2.1 19 pn.toNat = nx := by rw [scF_17 F (by decide) (by decide)]; exact hnx
      have nxb : -1 ≤ nx ∧ nx < 240 ∧ (nx < 0 ↔ l = []) := by
        cases l with
        | nil => have : nx = -1 := C'; exact ⟨by omega, by omega, fun _ => rfl, fun _ => by omega⟩
        | cons y l => exact ⟨by have := C'.1; omega, C'.2.1, fun w => by have := C'.1; omega, fun w => nomatch w⟩
      obtain ⟨s2, hs2⟩ : ∃ s2, s2 = mI (mI (mU s1 33 d nx) 38 (if 0 ≤ nx then 2 else 1)) 31 (if 0 ≤ nx then d + 1 else d) := ⟨_, rfl⟩
      have st2 : ∀ fuel, lpS m h (fuel + 1 + K + 1) q s = lpS m h fuel e s2 := fun fuel => by
        rw [st, a2, lp_1R (by omega) (by omega) f38 f31 d0 (by omega) g32 n0 n1 g17 g33 p0 p1 g19 nxb.1 nxb.2.1, ← hs2]
      have F2 : scF s1 s2 := by rw [hs2]; exact ⟨fun y a b => by rw [mI_1, if_neg a, mI_1, if_neg b, mU_1], fun y a b c e => by rw [mI_2, mI_2, mU_ne _ _ _ _ _ b], rfl⟩
      have K2 : scK d s1 s2 := fun y hy i hi => by rw [hs2, mI_2, mI_2, mU_3, if_neg (by omega)]
      have v31 : s2.1 31 = if 0 ≤ nx then d + 1 else d := by rw [hs2]; rfl
      have v38 : s2.1 38 = if 0 ≤ nx then 2 else 1 := by rw [hs2]; rfl
      have v32 : s2.2.2.1 32 d.toNat = n := by rw [hs2, mI_2, mI_2, mU_ne _ _ _ _ _ (by decide)]; exact g32
      have v33 : s2.2.2.1 33 d.toNat = nx := by rw [hs2, mI_2, mI_2, mU_3, if_pos ⟨rfl, rfl⟩]
      cases l with
      | nil =>
        have n0' : ¬ 0 ≤ nx := by have := nxb.2.2.mpr rfl; omega
        rw [if_neg n0'] at v31 v38
        show (0 ≤ e → _) ∧ _
        refine ⟨fun _ => ⟨K + 2, s2, by omega, fun fuel => by rw [show fuel + (K + 2) = fuel + 1 + K + 1 by omega]; exact st2 fuel, F.trans F2, v31, v38, (scK_le fK (by omega)).trans K2⟩, fun z => absurd (show e < 0 from z) (by omega)⟩
      | cons y l =>
        have n0' : 0 ≤ nx := C'.1
        rw [if_pos n0'] at v31 v38
        have C2 : ndCh (s2.2.2.1 19) (fdP s2.2.2.1 c D) nx (y :: l) := by
          refine ndCh_of (fun k w z => ?_) (fun i => by rw [scF_17 (F.trans F2) (by decide) (by decide)]) _ _ C'
          unfold fdP at *
          rw [scF_17 (F.trans F2) (by decide) (by decide), scF_17 (F.trans F2) (by decide) (by decide)]
          exact ⟨z.1, z.2.1, scF_N (F.trans F2) z.2.2⟩
        obtain ⟨I1, I2⟩ := simS_flds E n0 n1 d0 hD (y :: l) s2 e nx (by simp) (fun w hw => hT w (List.mem_cons_of_mem _ hw)) (scF_S (F.trans F2) S) v31 v38 v32 (by rw [scF_17 F2 (by decide) (by decide)]; exact g17) v33 C2 (by omega) (by omega)
        refine ⟨fun z => ?_, fun z => ?_⟩
        · obtain ⟨K', s', i1, i2, i3, i4, i5, i6⟩ := I1 z
          clear I1 I2
          exact ⟨K' + K + 2, s', by omega, fun fuel => by rw [show fuel + (K' + K + 2) = fuel + K' + 1 + K + 1 by omega, st2, i2], F.trans (F2.trans i3), i4, i5, (scK_le fK (by omega)).trans (K2.trans i6)⟩
        · obtain ⟨K', s', i1, i2, i3⟩ := I2 z
          clear I1 I2
          exact ⟨K' + K + 2, s', by omega, fun fuel => by rw [show fuel + (K' + K + 2) = fuel + K' + 1 + K + 1 by omega, st2, i2], F.trans (F2.trans i3)⟩
theorem kS_s (D : Nat) : kS (D + 1) = 25 * (kS D + 4) := rfl
/-- all but a U -/
theorem simS_N1 {m : Nat} {h : ax_Hp} {c b : Int → Int} {N D : Nat} (hz : ∀ p : Int, 160 ≤ p → c p = 0) (E : simS m h c b N D (meS m h) (fun _ => True)) : simS m h c b N (D + 1) (jnS m h) (fun t => c t ≠ 85) := by
  intro s d q n t ok S h31 d0 hD Nn hT q0 q1
  have n64 := S.2.1
  by_cases c1 : c t = 65
  · obtain ⟨⟨l1, l2, l3, l4, l5⟩, N1, -, -⟩ := Nn
    have N1 := N1 c1
    have hT1 : 0 ≤ spTy c D (t + 1) := by rw [spTy_A c1] at hT; exact hT
    have e : spSc c b (D + 1) t q = spSa b (spSc c b D (t + 1)) 21 20 q := by rw [spSc_s]; unfold spS1; rw [if_pos c1]
    have run := fun fuel => jn_h (m := m) (h := h) (q := q) h31 d0 (by omega) l1 l2 (l4.trans c1) (Or.inl rfl) fuel
    rw [if_pos rfl] at run
    obtain ⟨v1, v2, v3, v4, v5, v6⟩ := pS_v s d n (s.2.2.1 18 n.toNat) 3
    have F := pS_F s d n (s.2.2.1 18 n.toNat) 3
    have K := pS_K (s := s) (n := n) (ch := s.2.2.1 18 n.toNat) (k0 := 3) d0
    generalize pS s d n (s.2.2.1 18 n.toNat) 3 = s1 at *
    obtain ⟨I1, I2⟩ := simS_prts E l1 l2 d0 (by omega) hT1 21 20 s1 q (by omega) (by omega) (scF_S F S) v1 v2 v3 (by rw [scF_17 F (by decide) (by decide)]; exact l4.trans c1) v4 (by rw [v6]; rfl) (scF_N F N1) q0 q1
    rw [e, kS_s]
    refine ⟨fun z => ?_, fun z => ?_⟩
    · obtain ⟨k, s', i1, i2, i3, i4, i5, i6⟩ := I1 z
      clear I1 I2
      exact ⟨k, s', by omega, fun fuel => by rw [run, i2], F.trans i3, i4, i5, K.trans i6⟩
    · obtain ⟨k, s', i1, i2, i3⟩ := I2 z
      clear I1 I2
      exact ⟨k, s', by omega, fun fuel => by rw [run, i2], F.trans i3⟩
  · by_cases c2 : c t = 82
    · obtain ⟨⟨l1, l2, l3, l4, l5⟩, -, -, N1⟩ := Nn
      obtain ⟨N2, ⟨l, N3⟩, N4⟩ := N1 c2
      have e : spSc c b (D + 1) t q = spSf (spSc c b D) (spPt c (D + 1) t) q := by rw [spSc_s]; unfold spS1; rw [if_neg c1, if_neg ok, if_pos c2]
      obtain ⟨-, len6, pr⟩ := spPt_R (N := 160) (by omega) hz l3 hT c2
      have run := fun fuel => jn_h (m := m) (h := h) (q := q) h31 d0 (by omega) l1 l2 (l4.trans c2) (Or.inr rfl) fuel
      rw [if_neg (by decide)] at run
      obtain ⟨v1, v2, v3, v4, v5, v6⟩ := pS_v s d n (s.2.2.1 18 n.toNat) 2
      have F := pS_F s d n (s.2.2.1 18 n.toNat) 2
      have K := pS_K (s := s) (n := n) (ch := s.2.2.1 18 n.toNat) (k0 := 2) d0
      generalize pS s d n (s.2.2.1 18 n.toNat) 2 = s1 at *
      have C2 : ndCh (s1.2.2.1 19) (fdP s1.2.2.1 c D) (s.2.2.1 18 n.toNat) (spPt c (D + 1) t) := by
        refine ndCh_of (fun k w z => ?_) (fun i => by rw [scF_17 F (by decide) (by decide)]) _ _ N4
        unfold fdP
        rw [scF_17 F (by decide) (by decide), scF_17 F (by decide) (by decide)]
        exact ⟨z.1, z.2.1, scF_N F z.2.2⟩
      obtain ⟨I1, I2⟩ := simS_flds E l1 l2 d0 (by omega) (spPt c (D + 1) t) s1 q (s.2.2.1 18 n.toNat) (by rw [N3]; simp) (fun x hx => (pr x hx).2.1) (scF_S F S) v1 v2 v3 (by rw [scF_17 F (by decide) (by decide)]; exact l4.trans c2) v4 C2 q0 q1
      rw [e, kS_s]
      have ml : (spPt c (D + 1) t).length * (kS D + 2) ≤ 6 * (kS D + 2) := Nat.mul_le_mul_right _ len6
      refine ⟨fun z => ?_, fun z => ?_⟩
      · obtain ⟨k, s', i1, i2, i3, i4, i5, i6⟩ := I1 z
        clear I1 I2
        exact ⟨k, s', by omega, fun fuel => by rw [run, i2], F.trans i3, i4, i5, K.trans i6⟩
      · obtain ⟨k, s', i1, i2, i3⟩ := I2 z
        clear I1 I2
        exact ⟨k, s', by omega, fun fuel => by rw [run, i2], F.trans i3⟩
    · exact simS_leaf (D + 1) s d q n t ⟨c1, ok, c2⟩ S h31 d0 hD Nn hT q0 q1
theorem me_jn {m : Nat} {h : ax_Hp} {s : mS} {n q x : Int} (n0 : 0 ≤ n) (n1 : n < 240) (hk : s.2.2.1 17 n.toNat = x) (x0 : 0 ≤ x) (x1 : x < 128) (hx : x ≠ 85) (fuel : Nat) : meS m h fuel n q s = jnS m h fuel n q s := by
  unfold meS jnS
  rw [Model_meet_F]
  unfold Model_meet_b
  rw [mgr_17, Option.bind_some, mld_17 _ _ _ n0 n1, Option.bind_some, hk, if_neg (show ¬ Int32.ofInt x = 85 from by rw [show (85 : Int32) = Int32.ofInt 85 from rfl, zi_eq (by omega) (by omega) (by omega) (by omega)]; exact hx)]
/-- a U -/
theorem simS_U {m : Nat} {h : ax_Hp} {c b : Int → Int} {N D : Nat} (hz : ∀ p : Int, 160 ≤ p → c p = 0) (E : simS m h c b N D (jnS m h) (fun t => c t ≠ 85)) : simS m h c b N (D + 1) (meS m h) (fun t => c t = 85) := by
  intro s d q n t ok S h31 d0 hD Nn hT q0 q1
  have n64 := S.2.1
  have bb := bSt_b S.2.2.1 q0
  obtain ⟨⟨l1, l2, l3, l4, l5⟩, -, N1, -⟩ := Nn
  obtain ⟨N2, ⟨l, N3⟩, N4⟩ := N1 ok
  obtain ⟨-, len4, pu⟩ := spPt_U (N := 160) hz l3 hT ok
  have e : spSc c b (D + 1) t q = if hfO b (spPt c (D + 1) t).length q then spSc c b D ((spPt c (D + 1) t).getD (b q / 2).toNat 0) (q + 1) else -1 - q := by rw [spSc_s]; unfold spS1; rw [if_neg (by omega), if_pos ok]
  have hf := Model_half_z (m := m + 2) (h := h) (mm := (spPt c (D + 1) t).length) S q0 q1 (by omega) (by omega)
  have pre : ∀ fuel, meS m h fuel n q s = ax_ci (if hfO b (spPt c (D + 1) t).length q then ax_ci (ax_F (m + 4) 161 [ax_A (some 24), ax_I (Int32.ofInt n), ax_I (Int32.ofInt (b q / 2))] (mH h (mL s (b q / 2)))) (fun v35 h34 => Model_meet_jn49 (ax_F (m + 4)) (some 24) v35 (Int32.ofInt (q + 1)) h34) else some (.inl (some (ax_I (Int32.ofInt (-1 - q)))), mH h s)) (fun v g => Model_scan_lp17 (ax_F (m + 5)) fuel (some 24) v g) := fun fuel => by
    unfold meS
    refine congrArg (fun z => ax_ci z (fun v g => Model_scan_lp17 (ax_F (m + 5)) fuel (some 24) v g)) ?_
    rw [Model_meet_F]
    unfold Model_meet_b
    rw [mgr_17, Option.bind_some, mld_17 _ _ _ l1 l2, Option.bind_some, l4, ok, if_pos (show Int32.ofInt 85 = 85 from rfl), mgr_20, Option.bind_some, mld_20 _ _ _ l1 l2, Option.bind_some, N2, mS_on, pl_ci (show ax_F (m + 4) 196 [ax_A (some 24), ax_I (Int32.ofInt q), ax_I (Int32.ofInt (spPt c (D + 1) t).length)] (mH h s) = _ from hf)]
    by_cases c1 : hfO b (spPt c (D + 1) t).length q
    · have c3 := c1.2.2
      have c0 := c1.1
      have e32 : (Int64.ofInt (b q / 2)).toInt32 = Int32.ofInt (b q / 2) := by
        have := zb_32 (b q / 2).toNat (by omega)
        rw [show (((b q / 2).toNat : Nat) : Int) = b q / 2 by omega] at this
        exact this
      rw [if_pos c1, if_pos c1, if_pos c1, if_pos (show (0 : Int32) ≤ Int32.ofInt (q + 1) from by rw [zi_0, zi_le (by omega) (by omega) (by omega) (by omega)]; omega), mgl_37, Option.bind_some, show (mL s (b q / 2)).2.1 = b q / 2 from rfl, mS_on, e32]
    · rw [if_neg c1, if_neg c1, if_neg c1, if_neg (show ¬ (0 : Int32) ≤ Int32.ofInt (-1 - q) from by rw [zi_0, zi_le (by omega) (by omega) (by omega) (by omega)]; omega)]
      rfl
  rw [e, kS_s]
  by_cases c1 : hfO b (spPt c (D + 1) t).length q
  · have c3 := c1.2.2
    have c0 := c1.1
    have lt := bb.2.2.1 c0
    have hm : (spPt c (D + 1) t).getD (b q / 2).toNat 0 ∈ spPt c (D + 1) t := getD_mem (by omega)
    obtain ⟨b', eb, b0, b1', nb, Nb⟩ := Model_branch_z (m := m + 3) (h := h) (s := mL s (b q / 2)) (n := n) (num := b q / 2) l1 l2 (show ndCh (s.2.2.1 19) (fun k x => c x ≠ 85 ∧ Nd s.2.2.1 c D k x) (s.2.2.1 18 n.toNat) (spPt c (D + 1) t) from N4) (by omega) c3 (by omega)
    rw [if_pos c1]
    have run : ∀ fuel, meS m h fuel n q s = jnS m h fuel b' (q + 1) (mL s (b q / 2)) := fun fuel => by
      rw [pre, if_pos c1, pl_ci eb]
      rfl
    obtain ⟨I1, I2⟩ := E (mL s (b q / 2)) d (q + 1) b' _ nb S h31 d0 (by omega) Nb (pu _ hm).2.1 (by omega) (by omega)
    have F : scF s (mL s (b q / 2)) := ⟨fun _ _ _ => rfl, fun _ _ _ _ _ => rfl, rfl⟩
    refine ⟨fun z => ?_, fun z => ?_⟩
    · obtain ⟨k, s', i1, i2, i3, i4, i5, i6⟩ := I1 z
      clear I1 I2
      exact ⟨k, s', by omega, fun fuel => by rw [run, i2], F.trans i3, i4, i5, i6⟩
    · obtain ⟨k, s', i1, i2, i3⟩ := I2 z
      clear I1 I2
      exact ⟨k, s', by omega, fun fuel => by rw [run, i2], F.trans i3⟩
  · rw [if_neg c1]
    refine ⟨fun z => absurd z (by omega), fun _ => ⟨1, s, by omega, fun fuel => ?_, scF_refl s⟩⟩
    rw [pre, if_neg c1]
    exact lp_neg (m := m) (h := h) (fuel := fuel) (e := -1 - q) (s := s) (by omega) (by omega)
theorem simS_all {m : Nat} {h : ax_Hp} {c b : Int → Int} {N : Nat} (hz : ∀ p : Int, 160 ≤ p → c p = 0) (hb : ∀ p : Int, 0 ≤ c p ∧ c p < 128) : ∀ D, simS m h c b N D (meS m h) (fun _ => True) ∧ simS m h c b N D (jnS m h) (fun t => c t ≠ 85)
  | 0 => by
    have J : simS m h c b N 0 (jnS m h) (fun t => c t ≠ 85) := fun s d q n t ok S h31 d0 hD Nn hT q0 q1 => simS_leaf 0 s d q n t Nn.2 S h31 d0 hD Nn hT q0 q1
    refine ⟨fun s d q n t _ S h31 d0 hD Nn hT q0 q1 => ?_, J⟩
    have L := Nd_lf Nn
    obtain ⟨I1, I2⟩ := J s d q n t Nn.2.2.1 S h31 d0 hD Nn hT q0 q1
    have r := me_jn (m := m) (h := h) (s := s) (q := q) L.1 L.2.1 L.2.2.2.1 (hb t).1 (hb t).2 Nn.2.2.1
    exact ⟨fun z => by obtain ⟨k, s', i1, i2, i3⟩ := I1 z; exact ⟨k, s', i1, fun fuel => by rw [r, i2], i3⟩, fun z => by obtain ⟨k, s', i1, i2, i3⟩ := I2 z; exact ⟨k, s', i1, fun fuel => by rw [r, i2], i3⟩⟩
  | D + 1 => by
    obtain ⟨E1, E2⟩ := simS_all (m := m) (h := h) (b := b) (N := N) hz hb D
    have N1 := simS_N1 hz E1
    refine ⟨fun s d q n t _ S h31 d0 hD Nn hT q0 q1 => ?_, N1⟩
    by_cases c1 : c t = 85
    · exact simS_U hz E2 s d q n t c1 S h31 d0 hD Nn hT q0 q1
    · have L := Nd_lf Nn
      obtain ⟨I1, I2⟩ := N1 s d q n t c1 S h31 d0 hD Nn hT q0 q1
      have r := me_jn (m := m) (h := h) (s := s) (q := q) L.1 L.2.1 L.2.2.2.1 (hb t).1 (hb t).2 c1
      exact ⟨fun z => by obtain ⟨k, s', i1, i2, i3⟩ := I1 z; exact ⟨k, s', i1, fun fuel => by rw [r, i2], i3⟩, fun z => by obtain ⟨k, s', i1, i2, i3⟩ := I2 z; exact ⟨k, s', i1, fun fuel => by rw [r, i2], i3⟩⟩
theorem kS_6 : ∀ D, D ≤ 6 → kS D ≤ 10000000000 := by decide
/-- the reference scans as the text says -/
theorem Model_scan_z {m : Nat} {h : ax_Hp} {s : mS} {c b : Int → Int} {N D : Nat} {n t q : Int} (hz : ∀ p : Int, 160 ≤ p → c p = 0) (hb : ∀ p : Int, 0 ≤ c p ∧ c p < 128) (S : isS s N b) (hD : D ≤ 6) (Nn : Nd s.2.2.1 c D n t) (hT : 0 ≤ spTy c D t) (q0 : 0 ≤ q) (q1 : q ≤ N) : ∃ s', ax_F (m + 6) 194 [ax_A (some 24), ax_I (Int32.ofInt n), ax_I (Int32.ofInt q)] (mH h s) = some (.inl (some (ax_I (Int32.ofInt (spSc c b D t q)))), mH h s') ∧ scF s s' := by
  have n64 := S.2.1
  have B := spSc_b (c := c) S.2.2.1 D t q q0 q1
  have k6 := kS_6 D hD
  have F0 : scF s (mI (mI s 31 0) 38 2) := ⟨fun k a b => by rw [mI_1, if_neg b, mI_1, if_neg a], fun _ _ _ _ _ => rfl, rfl⟩
  have pre : ax_F (m + 6) 194 [ax_A (some 24), ax_I (Int32.ofInt n), ax_I (Int32.ofInt q)] (mH h s) = meS m h ax_fuel n q (mI (mI s 31 0) 38 2) := by
    rw [Model_scan_F]
    unfold Model_scan_b
    rw [show ax_pf (mH h s) (some 24) 9 31 (ax_I 0) = some (mH h (mI s 31 0)) from mpf_31 h s 0, Option.bind_some, show ax_pf (mH h (mI s 31 0)) (some 24) 9 38 (ax_I 2) = some (mH h (mI (mI s 31 0) 38 2)) from mpf_38 h _ 2, Option.bind_some, mS_on]
    rfl
  obtain ⟨I1, I2⟩ := (simS_all (m := m) (h := h) (b := b) (N := N) hz hb D).1 (mI (mI s 31 0) 38 2) 0 q n t trivial S rfl (by omega) (by omega) Nn hT q0 q1
  by_cases z : 0 ≤ spSc c b D t q
  · obtain ⟨k, s', i1, i2, i3, i4, i5, i6⟩ := I1 z
    clear I1 I2
    have b1 := B.1 z
    obtain ⟨f, hf⟩ : ∃ f, ax_fuel = f + 1 + k := ⟨999999999999 - k, by unfold ax_fuel; omega⟩
    refine ⟨s', ?_, F0.trans i3⟩
    rw [pre, hf, i2, lpS_s]
    unfold Model_scan_bd17 Model_scan_jn218
    rw [if_neg (show ¬ Int32.ofInt (spSc c b D t q) < 0 from zi_n0 z (by omega)), mgi_38, Option.bind_some, i5, if_neg (show ¬ (1 : Int32) < Int32.ofInt 1 from by decide), mgi_31, Option.bind_some, i4, if_pos (show Int32.ofInt 0 ≤ 0 from by decide)]
    rfl
  · obtain ⟨k, s', i1, i2, i3⟩ := I2 (Int.not_le.mp z)
    clear I1 I2
    obtain ⟨f, hf⟩ : ∃ f, ax_fuel = f + k := ⟨1000000000000 - k, by unfold ax_fuel; omega⟩
    exact ⟨s', by rw [pre, hf, i2], F0.trans i3⟩
