/-- the node of y in a chain -/
def nOf (nx : Nat → Int) : Int → List Int → Int → Int
  | _, [], _ => -1
  | n, x :: l, y => if x = y then n else nOf nx (nx n.toNat) l y
theorem nOf_s (nx : Nat → Int) (n x y : Int) (l : List Int) : nOf nx n (x :: l) y = if x = y then n else nOf nx (nx n.toNat) l y := rfl
theorem ndCh_m {nx : Nat → Int} {P : Int → Int → Prop} : ∀ (l : List Int) (n : Int), ndCh nx P n l → ndCh nx (fun k x => P k x ∧ x ∈ l) n l
  | [], _, h => h
  | x :: l, n, ⟨h1, h2, h3, h4⟩ => ⟨h1, h2, ⟨h3, List.mem_cons_self⟩, ndCh_of (fun _ _ z => ⟨z.1, List.mem_cons_of_mem _ z.2⟩) (fun _ => rfl) l _ (ndCh_m l _ h4)⟩
theorem ndCh_n {nx : Nat → Int} {P : Int → Int → Prop} : ∀ (l : List Int) (n : Int), ndCh nx P n l → l.Pairwise (fun x y => x ≠ y) → ndCh nx (fun k x => P k x ∧ k = nOf nx n l x) n l
  | [], _, h, _ => h
  | x :: l, n, ⟨h1, h2, h3, h4⟩, hp => by
    obtain ⟨p1, p2⟩ := List.pairwise_cons.mp hp
    refine ⟨h1, h2, ⟨h3, by rw [nOf_s, if_pos rfl]⟩, ?_⟩
    refine ndCh_of (fun k y z => ⟨z.1.1, ?_⟩) (fun _ => rfl) l _ (ndCh_m l _ (ndCh_n l _ h4 p2))
    rw [nOf_s, if_neg (p1 y z.2)]
    exact z.1.2
/-- a field's node -/
def fQ (A : Nat → Nat → Int) (c : Int → Int) (hi : Int) (D : Nat) (n m x : Int) : Prop := n < m ∧ A 21 m.toNat = c x ∧ A 24 m.toNat = spGv c D x ∧ gN A c hi D m (x + 2)
theorem fQ_of {A A' : Nat → Nat → Int} {c : Int → Int} {hi : Int} {D : Nat} {n m x : Int} (h : ∀ k, 9 ≤ k → k ≤ 25 → A' k = A k) (q : fQ A c hi D n m x) : fQ A' c hi D n m x := ⟨q.1, by rw [h 21 (by decide) (by decide)]; exact q.2.1, by rw [h 24 (by decide) (by decide)]; exact q.2.2.1, gN_of h q.2.2.2⟩
theorem fQ_ch {s s' : mS} {c : Int → Int} {hi : Int} {D : Nat} {n : Int} (h : ∀ k, 9 ≤ k → k ≤ 25 → s'.2.2.1 k = s.2.2.1 k) {l : List Int} {m : Int} (C : ndCh (s.2.2.1 19) (fQ s.2.2.1 c hi D n) m l) : ndCh (s'.2.2.1 19) (fQ s'.2.2.1 c hi D n) m l := ndCh_of (fun _ _ z => fQ_of h z) (fun i => by rw [h 19 (by decide) (by decide)]) l m C
theorem spAt_s (f : Int → Int → Int) (y x : Int) (l : List Int) (q : Int) : spAt f y (x :: l) q = if x = y then q else spAt f y l (f (x + 2) q) := rfl
/-- the reference skips the writer's fields ahead -/
theorem Mf_sc {m N : Nat} {h : ax_Hp} {b d : Int → Int} {N1 fn g y wn : Int} {Db : Nat} (hb : Db ≤ 6) (n1 : N1 ≤ 120) (g0 : 0 ≤ g) (g1 : g < 240) : ∀ (l : List Int) (n q : Int) (s : mS) (fuel : Nat), isS s N b → isT s 1 d → ndCh (s.2.2.1 19) (fQ s.2.2.1 d (120 + N1) Db wn) n l → y ∈ l → l.Pairwise (fun x y => d x ≠ d y) → g = nOf (s.2.2.1 19) n l y → s.2.2.1 21 g.toNat = d y → 0 ≤ q → q ≤ N → 0 ≤ spSf (spSc d b Db) l q → l.length < fuel → ∃ s', Model_tellField_lp159 (ax_F (m + 7)) fuel (some 24) (Int32.ofInt fn) (Int32.ofInt g) (Int32.ofInt q) (Int32.ofInt n) (mH h s) = ax_cv (ax_F (m + 7) 203 [ax_A (some 24), ax_I (Int32.ofInt fn), ax_I (Int32.ofInt g), ax_I (Int32.ofInt (spAt (spSc d b Db) y l q))] (mH h s')) (fun h25 => ax_rv h25) ∧ scF s s' ∧ 0 ≤ spAt (spSc d b Db) y l q ∧ spAt (spSc d b Db) y l q ≤ N ∧ 0 ≤ spSc d b Db (y + 2) (spAt (spSc d b Db) y l q)
  | [], n, q, s, fuel, S, T, C, hy, _, _, _, _, _, _, _ => absurd hy List.not_mem_nil
  | x :: l, n, q, s, fuel, S, T, C, hy, hp, hg, h21, q0, q1, hS, hf => by
    obtain ⟨fuel, rfl⟩ : ∃ g, fuel = g + 1 := ⟨fuel - 1, by omega⟩
    have hstep : Model_tellField_lp159 (ax_F (m + 7)) (fuel + 1) = Model_tellField_bd159 (ax_F (m + 7)) (Model_tellField_lp159 (ax_F (m + 7)) fuel) := rfl
    obtain ⟨c1, c2, c3, c4⟩ := C
    obtain ⟨p1, p2⟩ := List.pairwise_cons.mp hp
    have n64 := S.2.1
    rw [spSf_s] at hS
    have fx : 0 ≤ spSc d b Db (x + 2) q := by
      by_cases z : spSc d b Db (x + 2) q < 0
      · rw [if_pos z] at hS; omega
      · omega
    rw [if_neg (by omega)] at hS
    rw [hstep, spAt_s]
    rw [nOf_s] at hg
    unfold Model_tellField_bd159
    by_cases e : x = y
    · rw [if_pos e] at hg
      subst e
      subst hg
      refine ⟨s, ?_, scF_refl s, by rw [if_pos rfl]; exact q0, by rw [if_pos rfl]; exact q1, by rw [if_pos rfl]; exact fx⟩
      rw [if_pos rfl, if_pos rfl, mS_on]
    · rw [if_neg e] at hg ⊢
      have yl : y ∈ l := by
        rcases List.mem_cons.mp hy with z | z
        · exact absurd z.symm e
        · exact z
      have ne : n ≠ g := fun z => by
        have := c3.2.1
        rw [z, h21] at this
        exact p1 y yl this.symm
      have fb := (spSc_b (c := d) S.2.2.1 Db (x + 2) q q0 q1).1 fx
      obtain ⟨s1, e1, f1⟩ := Model_scan_z (m := m + 1) (h := h) (s := s) (n := n) (t := x + 2) (fun p hp => T.2.2.2.1 p (by have := T.2.1; omega)) T.2.2.2.2 S hb (gN_Nd (by omega) c3.2.2.2) c3.2.2.2.2.2.2 q0 q1
      have k19 : s1.2.2.1 19 = s.2.2.1 19 := scF_17 f1 (by decide) (by decide)
      have k25 : ∀ k, 9 ≤ k → k ≤ 25 → s1.2.2.1 k = s.2.2.1 k := fun k a b => f1.2.1 k (by omega) (by omega) (by omega) (by omega)
      obtain ⟨s', i1, i2, i3, i4, i5⟩ := Mf_sc (m := m) (h := h) (fn := fn) (wn := wn) hb n1 g0 g1 l (s.2.2.1 19 n.toNat) (spSc d b Db (x + 2) q) s1 fuel (scF_S f1 S) (isT_of T (k25 15 (by decide) (by decide)) (k25 14 (by decide) (by decide))) (fQ_ch k25 c4) yl p2 (by rw [k19]; exact hg) (by rw [k25 21 (by decide) (by decide)]; exact h21) (by omega) (by omega) hS (by rw [List.length_cons] at hf; omega)
      refine ⟨s', ?_, f1.trans i2, i3, i4, i5⟩
      rw [if_neg (show ¬ Int32.ofInt n = Int32.ofInt g from by rw [zi_eq (by omega) (by omega) (by omega) (by omega)]; exact ne), mS_on, pl_ci (show ax_F (m + 7) 194 [ax_A (some 24), ax_I (Int32.ofInt n), ax_I (Int32.ofInt q)] (mH h s) = _ from e1), mgr_19, Option.bind_some, mld_19 _ _ _ c1 c2, Option.bind_some, k19]
      exact i1
theorem wk_len (c : Int → Int) (U : List Int) : ∀ (n : Nat) (q : Int), (wk c U n q).length ≤ 3 * n
  | 0, _ => Nat.le_refl _
  | n + 1, q => by
    rw [wk_s, List.length_append, List.length_cons]
    have := wk_len c U n (q + 1)
    split
    · show 2 + _ ≤ _; omega
    · show 0 + _ ≤ _; omega
/-- the reference tells a default -/
theorem Mf_def {m : Nat} {h : ax_Hp} {s : mS} {c : Int → Int} {N0 fn x : Int} {D : Nat} (T0 : isT s 0 c) (hD : D ≤ 6) (n0 : N0 ≤ 120) (g : gN s.2.2.1 c N0 D fn (x + 2)) (x0 : 0 ≤ x) (hF : 0 ≤ spFe c (spTy c D) (spVal c c false D) x) (hg : spGv c D x ≠ -1) (h39 : s.1 39 = 2) (h70 : 0 ≤ s.1 7) (h7 : s.1 7 ≤ 1000) : ∃ s' v, ax_F (m + 7) 156 [ax_A (some 24), ax_I 0, ax_I (Int32.ofInt fn), ax_I (Int32.ofInt (spGv c D x)), ax_I 0] (mH h s) = some (.inl (some (ax_I v)), mH h s') ∧ rvF s s' ∧ (∀ L, rvK L s s') ∧ s'.1 48 = s.1 48 ∧ s'.1 49 = s.1 49 ∧ said s s' (spO 2 c c false D (x + 2) (spGv c D x)) ∧ (spO 2 c c false D (x + 2) (spGv c D x)).length ≤ 480 := by
  have hz := T0.2.2.2.1
  have sz := T0.2.1
  have sz0 := T0.1
  have gd : c (spTy c D (x + 2)) = 61 := by
    unfold spGv at hg
    by_cases z : c (spTy c D (x + 2)) = 61
    · exact z
    · rw [if_neg z] at hg; exact absurd rfl hg
  have ge : spGv c D x = spTy c D (x + 2) + 1 := by unfold spGv; rw [if_pos gd]
  have tg := spTy_gt hz D (x + 2) (by omega) g.2.2.2
  have tl := lt_of hz (q := spTy c D (x + 2)) (by omega)
  rw [spFe_n gd] at hF
  rw [ge]
  obtain ⟨q, hq⟩ : ∃ q, q = spTy c D (x + 2) + 1 := ⟨_, rfl⟩
  rw [← hq] at hF ⊢
  have q0 : 0 ≤ q := by omega
  have q1 : q ≤ 160 := by omega
  have hz160 : ∀ p, 160 ≤ p → c p = 0 := fun p hp => hz p (by omega)
  have r30 : (rtS s 0 false).1 30 = 0 := rfl
  have Tr : isT (rtS s 0 false) 0 c := T0
  have X : tcx c c false (rtS s 0 false) 0 q := ⟨by rw [r30]; exact Tr, Or.inl rfl, Or.inl ⟨rfl, Or.inl rfl, by rw [r30]; exact Tr⟩, rfl, ⟨by show 0 ≤ s.1 39; omega, by show s.1 39 ≤ 2; omega⟩, rfl, by omega, ⟨by show (0 : Int) ≤ 0; omega, by show 2 * (0 : Int) ≤ q + 0; omega⟩, ⟨h70, by show s.1 7 + 40 * (200 - q) ≤ 500000000; omega⟩, q0, q1⟩
  obtain ⟨s', e1, e2⟩ := (Model_readText_z (m := m) (h := h) (s := s) (tb := 0) (n := fn) (t := x + 2) (q := q) (D := D) hz160 X (by omega) (by omega) (gN_Nd (by omega) g) (fun z => by have : s.1 39 = 1 := z; omega)).1 hF
  obtain ⟨t1, t2, t3, t4, t5, t6⟩ := e2
  have w := wk_all sz0 hz D (x + 2) q (by omega) g.2.2.2 q0 hF
  have vl := spVal_gt hz D (x + 2) q q0 (by omega) hF
  rw [h39] at t5
  have F0 : rvF s (rtS s 0 false) := ((((rvF_I (by omega)).trans (rvF_I (by omega))).trans (rvF_I (by omega))).trans (rvF_I (by omega))).trans (rvF_I (by omega))
  refine ⟨s', _, e1, F0.trans t1.rv, fun L => (rvK_of (s' := rtS s 0 false) (fun _ _ _ => rfl)).trans (t1.rk L), ?_, ?_, ?_, ?_⟩
  · rw [t1.1 48 (by decide) (by decide) (by decide) (by decide)]; rfl
  · rw [t1.1 49 (by decide) (by decide) (by decide) (by decide)]; rfl
  · exact t5
  · rw [w.2.2]
    have := wk_len c (spU c c false D (x + 2) q) (spVal c c false D (x + 2) q - q).toNat q
    omega
/-- what stays while a record is told -/
def fdZ (s : mS) (N : Nat) (b c d : Int → Int) (N0 N1 rn wn q : Int) (Da Db : Nat) (gl : List Int) : Prop := rcx s N b c d N0 N1 ∧ ndCh (s.2.2.1 19) (fQ s.2.2.1 d (120 + N1) Db wn) (s.2.2.1 18 wn.toNat) gl ∧ gl.length ≤ 6 ∧ gl.Pairwise (fun x y => d x ≠ d y) ∧ (∀ x ∈ gl, 0 ≤ x) ∧ 120 ≤ wn ∧ wn < 240 ∧ s.2.2.1 17 wn.toNat = 82 ∧ 0 ≤ q ∧ q ≤ N ∧ 0 ≤ spSf (spSc d b Db) gl q
theorem fdZ_of {s s' : mS} {N : Nat} {b c d : Int → Int} {N0 N1 rn wn q : Int} {Da Db : Nat} {gl : List Int} (F : rvF s s') (X : fdZ s N b c d N0 N1 rn wn q Da Db gl) : fdZ s' N b c d N0 N1 rn wn q Da Db gl := by
  obtain ⟨a1, a2, a3, a4, a5, a6, a7, a8, a9⟩ := X
  have e18 := rvF_17 F (k := 18) (by decide) (by decide)
  have e17 := rvF_17 F (k := 17) (by decide) (by decide)
  exact ⟨rcx_of F a1, by rw [e18]; exact fQ_ch (fun k a b => rvF_17 F a b) a2, a3, a4, a5, a6, a7, by rw [e17]; exact a8, a9⟩
/-- what is said of a field -/
def fdG (c d b : Int → Int) (n Da Db : Nat) (gl : List Int) (q x : Int) : Option (List Int) := if fnd d (c x) gl = -1 then rxD c Da x else rsv c d b n Da Db (x + 2) (fnd d (c x) gl + 2) (spAt (spSc d b Db) (fnd d (c x) gl) gl q)
set_option maxHeartbeats 1000000 in
/-- one field -/
theorem Mf_one {m N : Nat} {h : ax_Hp} {s : mS} {b c d : Int → Int} {N0 N1 rn wn q L fn x lf dn : Int} {n Da Db : Nat} {gl : List Int} (E : simR m N h b c d N0 N1 n) (hn : Da + Db + 1 ≤ n) (ha : Da ≤ 6) (hb : Db ≤ 6) (X : fdZ s N b c d N0 N1 rn wn q Da Db gl) (x0 : 0 ≤ x) (hF : 0 ≤ spFe c (spTy c Da) (spVal c c false Da) x) (Q : fQ s.2.2.1 c N0 Da rn fn x) (f0 : 0 ≤ fn) (l0 : 0 ≤ L) (hL : L + 1 + Da ≤ 6) (A : aF s L fn wn q lf dn) (d0 : 0 ≤ dn) (d1 : dn ≤ 100) (h7 : s.1 7 ≤ 400) :
    ∃ s4 s5 : mS, (∀ fuel, lpR m h (fuel + 1) s = lpR m h fuel s5) ∧ rvF s s4 ∧ rvK L s s4 ∧ said s s4 (sepL dn) ∧ aF s4 L (s.2.2.1 19 fn.toNat) wn q lf (dn + 1) ∧ rr m h (L + 1) (fun fuel => lpR m h fuel s5) s4 (fdG c d b n Da Db gl q x) (kS Da) (fun x => x.1 48 = L + 1) := by
  obtain ⟨R, C, g6, gp, gn, w0, w1, k17, q0, q1, hS⟩ := id X
  have L9 : L < 10 := by omega
  have n0 := R.2.2.2.1
  have n1 := R.2.2.2.2.1
  have n64 := R.1.2.1
  have k2 := kS_2 Da
  obtain ⟨f1, f2, f3⟩ := gN_k Q.2.2.2
  have cb := R.2.1.2.2.2.2
  have db := R.2.2.1.2.2.2.2
  have cx := cb x
  -- the , and the frame
  obtain ⟨s1, e1, F1, sd1⟩ : ∃ s1, ax_F (m + 8) 207 [ax_A (some 24)] (mH h s) = Model_tellField_jn50 (ax_F (m + 7)) (some 24) (Int32.ofInt L) (Int32.ofInt fn) (mH h s1) ∧ syF s s1 ∧ said s s1 (sepL dn) := by
    rw [Model_tellField_F]
    unfold Model_tellField_b sepL
    rw [mgi_48, Option.bind_some, A.1, show (1 : Int32) = Int32.ofInt 1 from rfl, zi_sub, show L + 1 - 1 = L by omega, mgr_43, Option.bind_some, mld_43 _ _ _ l0 L9, Option.bind_some, A.2.2.1, if_pos (show (0 : Int32) ≤ Int32.ofInt fn from by rw [zi_0, zi_le (by omega) (by omega) (by omega) (by omega)]; omega), mgr_47, Option.bind_some, mld_47 _ _ _ l0 L9, Option.bind_some, A.2.2.2.2.2.2.1]
    by_cases z : dn = 0
    · rw [if_pos (show Int32.ofInt dn ≤ 0 from by rw [zi_0, zi_le (by omega) (by omega) (by omega) (by omega)]; omega), if_pos z]
      exact ⟨s, rfl, syF_refl s, said_0 rfl rfl⟩
    · obtain ⟨s1, e1, f1, g1, -⟩ := Model_say_z (n := m + 6) (h := h) (s := s) (x := 44) A.2.2.2.2.2.2.2 (by omega)
      rw [if_neg (show ¬ Int32.ofInt dn ≤ 0 from by rw [zi_0, zi_le (by omega) (by omega) (by omega) (by omega)]; omega), if_neg z, mS_on, pl_cv (show ax_F (m + 7) 160 [ax_A (some 24), ax_I 44] (mH h s) = _ from e1)]
      exact ⟨s1, rfl, f1, g1⟩
  have l7 := said_1 sd1
  have sl : (sepL dn).length ≤ 1 := by unfold sepL; split <;> decide
  have A7 := A.2.2.2.2.2.2.2
  have A1 := aF_sy A l0 F1 (by omega)
  have A2 := aF_43 (v := s.2.2.1 19 fn.toNat) (aF_47 (v := dn + 1) A1)
  have F2 : rvF s (mU (mU s1 47 L (dn + 1)) 43 L (s.2.2.1 19 fn.toNat)) := F1.rv.trans ((rvF_U (by omega)).trans (rvF_U (by omega)))
  have K2 : rvK L s (mU (mU s1 47 L (dn + 1)) 43 L (s.2.2.1 19 fn.toNat)) := (F1.rk L).trans ((rvK_U (by omega)).trans (rvK_U (by omega)))
  have S2 : said s (mU (mU s1 47 L (dn + 1)) 43 L (s.2.2.1 19 fn.toNat)) (sepL dn) := by
    have := sd1.trans (said_0 (s' := mU (mU s1 47 L (dn + 1)) 43 L (s.2.2.1 19 fn.toNat)) rfl rfl)
    rw [List.append_nil] at this
    exact this
  have k19 : (mU s1 47 L (dn + 1)).2.2.1 19 fn.toNat = s.2.2.1 19 fn.toNat := by rw [mU_ne _ _ _ _ _ (by decide), F1.2.1 19 (by decide)]
  have j50 : Model_tellField_jn50 (ax_F (m + 7)) (some 24) (Int32.ofInt L) (Int32.ofInt fn) (mH h s1) = (ax_gr (mH h (mU (mU s1 47 L (dn + 1)) 43 L (s.2.2.1 19 fn.toNat))) (some 24) 9 44).bind fun v13 => (ax_ldi (mH h (mU (mU s1 47 L (dn + 1)) 43 L (s.2.2.1 19 fn.toNat))) v13 1 (Int32.ofInt L)).bind fun v14 => (ax_gr (mH h (mU (mU s1 47 L (dn + 1)) 43 L (s.2.2.1 19 fn.toNat))) (some 24) 9 21).bind fun v15 => (ax_ldi (mH h (mU (mU s1 47 L (dn + 1)) 43 L (s.2.2.1 19 fn.toNat))) v15 3 (Int32.ofInt fn)).bind fun v16 => ax_on (mH h (mU (mU s1 47 L (dn + 1)) 43 L (s.2.2.1 19 fn.toNat))) (some 24) 9 <| ax_ci (ax_F (m + 7) 184 [ax_A (some 24), ax_I v14, ax_I v16] (mH h (mU (mU s1 47 L (dn + 1)) 43 L (s.2.2.1 19 fn.toNat)))) fun v18 h17 => if 0 ≤ v18 then (ax_gr h17 (some 24) 9 45).bind fun v19 => (ax_ldi h17 v19 1 (Int32.ofInt L)).bind fun v20 => (ax_gr h17 (some 24) 9 18).bind fun v21 => (ax_gr h17 (some 24) 9 44).bind fun v22 => (ax_ldi h17 v22 1 (Int32.ofInt L)).bind fun v23 => (ax_ldi h17 v21 1 v23).bind fun v24 => Model_tellField_lp159 (ax_F (m + 7)) ax_fuel (some 24) (Int32.ofInt fn) v18 v20 v24 h17 else (ax_gr h17 (some 24) 9 24).bind fun v31 => (ax_ldi h17 v31 1 (Int32.ofInt fn)).bind fun v32 => if 0 ≤ v32 then Model_tellField_jn108 (ax_F (m + 7)) (some 24) (Int32.ofInt fn) 0 (some 24) h17 else Model_tellField_jn108 (ax_F (m + 7)) (some 24) (Int32.ofInt fn) 1 (some 24) h17 := by
    unfold Model_tellField_jn50
    rw [mgr_47, Option.bind_some, mld_47 _ _ _ l0 L9, Option.bind_some, A1.2.2.2.2.2.2.1, show Int32.ofInt dn + 1 = Int32.ofInt (dn + 1) from by rw [show (1 : Int32) = Int32.ofInt 1 from rfl, zi_add], mst_47 _ _ _ _ l0 L9, Option.bind_some, mgr_43, Option.bind_some, mgr_19, Option.bind_some, mld_19 _ _ _ f0 (by omega), Option.bind_some, k19, mst_43 _ _ _ _ l0 L9, Option.bind_some]
  have h72 : (mU (mU s1 47 L (dn + 1)) 43 L (s.2.2.1 19 fn.toNat)).1 7 ≤ 401 := by show s1.1 7 ≤ 401; omega
  generalize mU (mU s1 47 L (dn + 1)) 43 L (s.2.2.1 19 fn.toNat) = s2 at *
  have R2 := rcx_of F2 R
  have X2 := fdZ_of F2 X
  have Q2 : fQ s2.2.2.1 c N0 Da rn fn x := fQ_of (fun k a b => rvF_17 F2 a b) Q
  have A27 := A2.2.2.2.2.2.2.2
  have C2 := X2.2.1
  have ndp : gl.Pairwise (fun x y => x ≠ y) := gp.imp (fun h e => h (by rw [e]))
  obtain ⟨g, fe, fc⟩ := Model_fieldOf_z (m := m + 6) (h := h) (s := s2) (d := d) (y := c x) (n := wn) (fun k y hy => ⟨hy.1.2.1, db y⟩) cx.1 cx.2 (by omega) w1 (ndCh_n gl _ C2 ndp) g6 gp
  have pre : ∀ fuel, lpR m h (fuel + 1) s = ax_cv (if (0 : Int32) ≤ Int32.ofInt g then Model_tellField_lp159 (ax_F (m + 7)) ax_fuel (some 24) (Int32.ofInt fn) (Int32.ofInt g) (Int32.ofInt q) (Int32.ofInt (s2.2.2.1 18 wn.toNat)) (mH h s2) else (if (0 : Int32) ≤ Int32.ofInt (spGv c Da x) then Model_tellField_jn108 (ax_F (m + 7)) (some 24) (Int32.ofInt fn) 0 (some 24) (mH h s2) else Model_tellField_jn108 (ax_F (m + 7)) (some 24) (Int32.ofInt fn) 1 (some 24) (mH h s2))) (fun g => Model_resolve_lp23 (ax_F (m + 8)) fuel (some 24) g) := fun fuel => by
    rw [lp_step A.1 l0 L9 A.2.1 h7 A.2.2.2.2.2.2.2 A.2.2.2.1 (by omega) w1 k17 (by omega) (by omega), if_neg (by decide), e1, j50, mgr_44, Option.bind_some, mld_44 _ _ _ l0 L9, Option.bind_some, A2.2.2.2.1, mgr_21, Option.bind_some, mld_21 _ _ _ f0 (by omega), Option.bind_some, Q2.2.1, mS_on, pl_ci (show ax_F (m + 7) 184 [ax_A (some 24), ax_I (Int32.ofInt wn), ax_I (Int32.ofInt (c x))] (mH h s2) = _ from fe)]
    rw [mgr_45, Option.bind_some, mld_45 _ _ _ l0 L9, Option.bind_some, A2.2.2.2.2.1, mgr_18, Option.bind_some, mgr_44, Option.bind_some, mld_44 _ _ _ l0 L9, Option.bind_some, A2.2.2.2.1, mld_18 _ _ _ (show 0 ≤ wn by omega) w1, Option.bind_some, mgr_24, Option.bind_some, mld_24 _ _ _ f0 (by omega), Option.bind_some, Q2.2.2.1]
  unfold fdG
  rcases fc with ⟨fc1, fc2⟩ | ⟨fc1, fc2, fc3, fc4, fc5⟩ | ⟨-, -, -, y, y1, y2⟩
  · rw [if_pos fc1]
    subst fc2
    have gb : -1 ≤ spGv c Da x ∧ spGv c Da x ≤ 1000 := by
      have hz := R.2.1.2.2.2.1
      have := (spTy_gt hz Da (x + 2) (by omega) Q.2.2.2.2.2.2)
      have := R.2.1.2.1
      unfold spGv
      split <;> omega
    unfold rxD
    by_cases gz : spGv c Da x = -1
    · rw [if_pos gz]
      have h49 : (mI s2 49 1).1 49 = 1 := rfl
      refine ⟨s2, mI s2 49 1, fun fuel => ?_, F2, K2, S2, A2, rr_B (rr_no (rvF_I (by omega)) h49 A27 (by show s2.1 7 ≤ 2000; omega)) (by omega)⟩
      rw [pre, if_neg (show ¬ (0 : Int32) ≤ Int32.ofInt (-1) from by decide), gz, if_neg (show ¬ (0 : Int32) ≤ Int32.ofInt (-1) from by decide)]
      unfold Model_tellField_jn108
      rw [show ax_pz (mH h s2) (some 24) 9 49 1 = some (mH h (mI s2 49 1)) from mpz_49 h s2 1 (Or.inr rfl), Option.bind_some, mgi_49, Option.bind_some, h49, if_neg (show ¬ Int32.ofInt 1 = 0 from by decide)]
      rfl
    · rw [if_neg gz]
      have T5 : isT (mI (mI s2 49 0) 39 2) 0 c := R2.2.1
      obtain ⟨s5, v, e5, F5, K5, h48, h49, sd5, ln5⟩ := Mf_def (m := m) (h := h) (s := mI (mI s2 49 0) 39 2) (N0 := N0) (fn := fn) (x := x) T5 ha n0 Q2.2.2.2 x0 hF gz rfl A27 (by show s2.1 7 ≤ 1000; omega)
      have F3 : rvF s2 (mI (mI s2 49 0) 39 2) := (rvF_I (by omega)).trans (rvF_I (by omega))
      have sd : said s2 s5 (spO 2 c c false Da (x + 2) (spGv c Da x)) := (said_0 (s := s2) (s' := mI (mI s2 49 0) 39 2) rfl rfl).trans sd5
      have l5 := said_1 sd
      refine ⟨s2, s5, fun fuel => ?_, F2, K2, S2, A2, rr_B (rr_end (F3.trans F5) ((rvK_of (s' := mI (mI s2 49 0) 39 2) (fun _ _ _ => rfl)).trans (K5 _)) (h49.trans rfl) sd (by omega) (by omega) (h48.trans A2.1)) (by omega)⟩
      rw [pre, if_neg (show ¬ (0 : Int32) ≤ Int32.ofInt (-1) from by decide), if_pos (show (0 : Int32) ≤ Int32.ofInt (spGv c Da x) from by rw [zi_0, zi_le (by omega) (by omega) (by omega) (by omega)]; omega)]
      unfold Model_tellField_jn108
      rw [show ax_pz (mH h s2) (some 24) 9 49 0 = some (mH h (mI s2 49 0)) from mpz_49 h s2 0 (Or.inl rfl), Option.bind_some, mgi_49, Option.bind_some, show (mI s2 49 0).1 49 = 0 from rfl, if_pos (show Int32.ofInt 0 = 0 from rfl), show ax_pf (mH h (mI s2 49 0)) (some 24) 9 39 (ax_I 2) = some (mH h (mI (mI s2 49 0) 39 2)) from mpf_39 h _ 2, Option.bind_some, mgr_24, Option.bind_some, mld_24 _ _ _ f0 (by omega), Option.bind_some, show (mI (mI s2 49 0) 39 2).2.2.1 24 fn.toNat = spGv c Da x from Q2.2.2.1, mS_on, pl_ci e5]
      rfl
  · rw [if_neg fc1]
    obtain ⟨⟨p1, p2, p3, p4⟩, p5⟩ := fc2
    have pk := gN_k p4
    have hSp := hS
    obtain ⟨s3, e3, f3', a0, a1, a2⟩ := Mf_sc (m := m) (h := h) (fn := fn) (wn := wn) (y := fnd d (c x) gl) hb n1 fc3 fc4 gl (s2.2.2.1 18 wn.toNat) q s2 ax_fuel R2.1 R2.2.2.1 C2 fc5 gp p5 p2 q0 q1 hSp (by unfold ax_fuel; omega)
    have F3 : rvF s s3 := F2.trans f3'.rv
    have A3 := aF_sc A2 l0 f3'
    have S3 : said s s3 (sepL dn) := by
      have := S2.trans (said_0 (s' := s3) (f3'.1 7 (by decide) (by decide)) (f3'.2.1 8 (by decide) (by decide) (by decide) (by decide)))
      rw [List.append_nil] at this
      exact this
    obtain ⟨s5, e5, rr5⟩ := E Da Db fn (x + 2) g (fnd d (c x) gl + 2) (spAt (spSc d b Db) (fnd d (c x) gl) gl q) (L + 1) s3 (m + 1) hn ha hb (rcx_of F3 R) (gN_of (fun k a b => rvF_17 F3 a b) Q.2.2.2) (gN_of (fun k a b => rvF_17 f3'.rv a b) p4) (by omega) a0 a1 a2 A3.1 (by omega) (by omega) A3.2.1 A3.2.2.2.2.2.2.2 (by rw [f3'.1 7 (by decide) (by decide)]; omega)
    refine ⟨s3, s5, fun fuel => ?_, F3, K2.trans (f3'.rk L), S3, A3, rr5⟩
    rw [pre, if_pos (show (0 : Int32) ≤ Int32.ofInt g from by rw [zi_0, zi_le (by omega) (by omega) (by omega) (by omega)]; omega), e3, pl_cv (show ax_F (m + 7) 203 [ax_A (some 24), ax_I (Int32.ofInt fn), ax_I (Int32.ofInt g), ax_I (Int32.ofInt (spAt (spSc d b Db) (fnd d (c x) gl) gl q))] (mH h s3) = _ from e5)]
    rfl
  · exact absurd (gn y y1) (by omega)
