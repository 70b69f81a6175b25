def kS : Nat → Nat
  | 0 => 2
  | D + 1 => 25 * (kS D + 4)
def lpS (m : Nat) (h : ax_Hp) (fuel : Nat) (q : Int) (s : mS) : ax_O := Model_scan_lp17 (ax_F (m + 5)) fuel (some 24) (Int32.ofInt q) (mH h s)
def meS (m : Nat) (h : ax_Hp) (fuel : Nat) (n q : Int) (s : mS) : ax_O := ax_ci (ax_F (m + 5) 195 [ax_A (some 24), ax_I (Int32.ofInt n), ax_I (Int32.ofInt q)] (mH h s)) (fun v g => Model_scan_lp17 (ax_F (m + 5)) fuel (some 24) v g)
def jnS (m : Nat) (h : ax_Hp) (fuel : Nat) (n q : Int) (s : mS) : ax_O := ax_ci (Model_meet_jn49 (ax_F (m + 4)) (some 24) (Int32.ofInt n) (Int32.ofInt q) (mH h s)) (fun v g => Model_scan_lp17 (ax_F (m + 5)) fuel (some 24) v g)
theorem lpS_s (m : Nat) (h : ax_Hp) (fuel : Nat) (q : Int) (s : mS) : lpS m h (fuel + 1) q s = Model_scan_bd17 (ax_F (m + 5)) (Model_scan_lp17 (ax_F (m + 5)) fuel) (some 24) (Int32.ofInt q) (mH h s) := rfl
theorem lp_neg {m : Nat} {h : ax_Hp} {fuel : Nat} {e : Int} {s : mS} (h1 : e < 0) (h2 : -1000000 ≤ e) : lpS m h (fuel + 1) e s = some (.inl (some (ax_I (Int32.ofInt e))), mH h s) := by
  rw [lpS_s]
  unfold Model_scan_bd17 Model_scan_jn218
  rw [if_pos (show Int32.ofInt e < 0 from by rw [zi_0, zi_lt (by omega) (by omega) (by omega) (by omega)]; exact h1)]
  rfl
theorem lp_2 {m : Nat} {h : ax_Hp} {fuel : Nat} {q d n : Int} {s : mS} (q0 : 0 ≤ q) (q1 : q ≤ 1000) (h38 : s.1 38 = 2) (h31 : s.1 31 = d + 1) (d0 : 0 ≤ d) (d1 : d < 10) (hn : s.2.2.1 33 d.toNat = n) : lpS m h (fuel + 1) q s = meS m h fuel n q s := by
  rw [lpS_s]
  unfold Model_scan_bd17 Model_scan_jn36
  rw [if_neg (show ¬ Int32.ofInt q < 0 from zi_n0 q0 (by omega)), mgi_38, Option.bind_some, h38, if_pos (show (1 : Int32) < Int32.ofInt 2 from by decide), Option.bind_some, if_neg (show ¬ Int32.ofInt 2 = 3 from by decide), Option.bind_some, if_pos (show Int32.ofInt 2 = 2 from rfl), mgr_33, Option.bind_some, mgi_31, Option.bind_some, h31, show (1 : Int32) = Int32.ofInt 1 from rfl, zi_sub, show d + 1 - 1 = d by omega, mld_33 _ _ _ d0 (by omega), Option.bind_some, hn, mS_on]
  rfl
theorem lp_3 {m : Nat} {h : ax_Hp} {fuel : Nat} {q : Int} {s : mS} (q0 : 0 ≤ q) (q1 : q ≤ 1000) (h38 : s.1 38 = 3) : lpS m h (fuel + 1) q s = ax_ci (ax_F (m + 5) 201 [ax_A (some 24), ax_I (Int32.ofInt q)] (mH h s)) (fun v g => Model_scan_lp17 (ax_F (m + 5)) fuel (some 24) v g) := by
  rw [lpS_s]
  unfold Model_scan_bd17 Model_scan_jn36
  rw [if_neg (show ¬ Int32.ofInt q < 0 from zi_n0 q0 (by omega)), mgi_38, Option.bind_some, h38, if_pos (show (1 : Int32) < Int32.ofInt 3 from by decide), Option.bind_some, if_pos (show Int32.ofInt 3 = 3 from rfl), mS_on]
theorem lp_1A {m : Nat} {h : ax_Hp} {fuel : Nat} {q d n j : Int} {s : mS} (q0 : 0 ≤ q) (q1 : q ≤ 1000) (h38 : s.1 38 = 1) (h31 : s.1 31 = d + 1) (d0 : 0 ≤ d) (d1 : d < 10) (hn : s.2.2.1 32 d.toNat = n) (n0 : 0 ≤ n) (n1 : n < 240) (hk : s.2.2.1 17 n.toNat = 65) (hj : s.2.2.1 34 d.toNat = j) (j0 : 0 ≤ j) (j1 : j ≤ 1000) : lpS m h (fuel + 1) q s = lpS m h fuel q (mI (mU s 34 d (j - 1)) 38 (if j - 1 = 0 then 3 else 2)) := by
  have ds : Int32.ofInt (d + 1) - Int32.ofInt 1 = Int32.ofInt d := by rw [zi_sub, show d + 1 - 1 = d by omega]
  rw [lpS_s]
  unfold Model_scan_bd17 Model_scan_jn36 Model_scan_jn137
  rw [if_neg (show ¬ Int32.ofInt q < 0 from zi_n0 q0 (by omega)), mgi_38, Option.bind_some, h38, if_neg (show ¬ (1 : Int32) < Int32.ofInt 1 from by decide), mgi_31, Option.bind_some, h31, if_neg (show ¬ Int32.ofInt (d + 1) ≤ 0 from by rw [zi_0, zi_le (by omega) (by omega) (by omega) (by omega)]; omega), Option.bind_some, if_neg (show ¬ Int32.ofInt 1 = 3 from by decide), Option.bind_some, if_neg (show ¬ Int32.ofInt 1 = 2 from by decide), mgr_17, Option.bind_some, mgr_32, Option.bind_some, Option.bind_some, show (1 : Int32) = Int32.ofInt 1 from rfl, ds, mld_32 _ _ _ d0 (by omega), Option.bind_some, hn, mld_17 _ _ _ n0 n1, Option.bind_some, hk, if_pos (show Int32.ofInt 65 = 65 from rfl), mgr_34, Option.bind_some, Option.bind_some, ds, mld_34 _ _ _ d0 (by omega), Option.bind_some, hj, zi_sub, mst_34 _ _ _ _ d0 (by omega), Option.bind_some, mgr_34, Option.bind_some, mgi_31, Option.bind_some, show (mU s 34 d (j - 1)).1 31 = d + 1 from h31, ds, mld_34 _ _ _ d0 (by omega), Option.bind_some, show (mU s 34 d (j - 1)).2.2.1 34 d.toNat = j - 1 from if_pos ⟨rfl, rfl⟩]
  by_cases c : j - 1 = 0
  · rw [if_pos (show Int32.ofInt (j - 1) = 0 from by rw [c]; rfl), if_pos c, show (3 : Int32) = Int32.ofInt 3 from rfl, mpf_38, Option.bind_some]
    rfl
  · rw [if_neg (show ¬ Int32.ofInt (j - 1) = 0 from by rw [zi_0, zi_eq (by omega) (by omega) (by omega) (by omega)]; exact c), if_neg c, show (2 : Int32) = Int32.ofInt 2 from rfl, mpf_38, Option.bind_some]
    rfl
theorem lp_1R {m : Nat} {h : ax_Hp} {fuel : Nat} {q d n pn nx : Int} {s : mS} (q0 : 0 ≤ q) (q1 : q ≤ 1000) (h38 : s.1 38 = 1) (h31 : s.1 31 = d + 1) (d0 : 0 ≤ d) (d1 : d < 10) (hn : s.2.2.1 32 d.toNat = n) (n0 : 0 ≤ n) (n1 : n < 240) (hk : s.2.2.1 17 n.toNat = 82) (hp : s.2.2.1 33 d.toNat = pn) (p0 : 0 ≤ pn) (p1 : pn < 240) (hx : s.2.2.1 19 pn.toNat = nx) (x0 : -1 ≤ nx) (x1 : nx < 240) : lpS m h (fuel + 1) q s = lpS m h fuel q (mI (mI (mU s 33 d nx) 38 (if 0 ≤ nx then 2 else 1)) 31 (if 0 ≤ nx then d + 1 else d)) := by
  have ds : Int32.ofInt (d + 1) - Int32.ofInt 1 = Int32.ofInt d := by rw [zi_sub, show d + 1 - 1 = d by omega]
  rw [lpS_s]
  unfold Model_scan_bd17 Model_scan_jn36 Model_scan_jn190 Model_scan_jn211
  rw [if_neg (show ¬ Int32.ofInt q < 0 from zi_n0 q0 (by omega)), mgi_38, Option.bind_some, h38, if_neg (show ¬ (1 : Int32) < Int32.ofInt 1 from by decide), mgi_31, Option.bind_some, h31, if_neg (show ¬ Int32.ofInt (d + 1) ≤ 0 from by rw [zi_0, zi_le (by omega) (by omega) (by omega) (by omega)]; omega), Option.bind_some, if_neg (show ¬ Int32.ofInt 1 = 3 from by decide), Option.bind_some, if_neg (show ¬ Int32.ofInt 1 = 2 from by decide), mgr_17, Option.bind_some, mgr_32, Option.bind_some, Option.bind_some, show (1 : Int32) = Int32.ofInt 1 from rfl, ds, mld_32 _ _ _ d0 (by omega), Option.bind_some, hn, mld_17 _ _ _ n0 n1, Option.bind_some, hk, if_neg (show ¬ Int32.ofInt 82 = 65 from by decide), mgr_33, Option.bind_some, Option.bind_some, mgr_19, Option.bind_some, Option.bind_some, Option.bind_some, ds, mld_33 _ _ _ d0 (by omega), Option.bind_some, hp, mld_19 _ _ _ p0 p1, Option.bind_some, hx, mst_33 _ _ _ _ d0 (by omega), Option.bind_some, mgr_33, Option.bind_some, mgi_31, Option.bind_some, show (mU s 33 d nx).1 31 = d + 1 from h31, ds, mld_33 _ _ _ d0 (by omega), Option.bind_some, show (mU s 33 d nx).2.2.1 33 d.toNat = nx from if_pos ⟨rfl, rfl⟩]
  by_cases c : 0 ≤ nx
  · rw [if_pos (show (0 : Int32) ≤ Int32.ofInt nx from by rw [zi_0, zi_le (by omega) (by omega) (by omega) (by omega)]; exact c), if_pos c, if_pos c, show (2 : Int32) = Int32.ofInt 2 from rfl, mpf_38, Option.bind_some, mgi_31, Option.bind_some, mgi_38, Option.bind_some, show (mI (mU s 33 d nx) 38 2).1 38 = 2 from rfl, if_neg (show ¬ Int32.ofInt 2 = Int32.ofInt 1 from by decide), show (mI (mU s 33 d nx) 38 2).1 31 = d + 1 from h31, zi_0, zi_sub, mpf_31, Option.bind_some, show d + 1 - 0 = d + 1 by omega]
    rfl
  · rw [if_neg (show ¬ (0 : Int32) ≤ Int32.ofInt nx from by rw [zi_0, zi_le (by omega) (by omega) (by omega) (by omega)]; exact c), if_neg c, if_neg c, mpf_38, Option.bind_some, mgi_31, Option.bind_some, mgi_38, Option.bind_some, show (mI (mU s 33 d nx) 38 1).1 38 = 1 from rfl, if_pos rfl, show (mI (mU s 33 d nx) 38 1).1 31 = d + 1 from h31, zi_sub, mpf_31, Option.bind_some, show d + 1 - 1 = d by omega]
    rfl
/-- a frame is laid -/
def pS (s : mS) (d n ch k0 : Int) : mS := mI (mI (mU (mU (mU (mU (mI s 38 1) 32 d n) 33 d ch) 34 d 0) 36 d 0) 31 (d + 1)) 38 k0
theorem jn_h {m : Nat} {h : ax_Hp} {q d n k : Int} {s : mS} (h31 : s.1 31 = d) (d0 : 0 ≤ d) (d1 : d < 10) (n0 : 0 ≤ n) (n1 : n < 240) (hk : s.2.2.1 17 n.toNat = k) (hk2 : k = 65 ∨ k = 82) (fuel : Nat) : jnS m h fuel n q s = lpS m h fuel q (pS s d n (s.2.2.1 18 n.toNat) (if k = 65 then 3 else 2)) := by
  have j84 : Model_meet_jn84 (ax_F (m + 4)) (some 24) (Int32.ofInt n) (Int32.ofInt q) (mH h (mI s 38 1)) = some (.inl (some (ax_I (Int32.ofInt q))), mH h (pS s d n (s.2.2.1 18 n.toNat) (if k = 65 then 3 else 2))) := by
    unfold Model_meet_jn84 Model_meet_jn156
    rw [mgr_32, Option.bind_some, mgi_31, Option.bind_some, show (mI s 38 1).1 31 = d from h31, mst_32 _ _ _ _ d0 (by omega), Option.bind_some, mgr_33, Option.bind_some, mgi_31, Option.bind_some, show (mU (mI s 38 1) 32 d n).1 31 = d from h31, mgr_18, Option.bind_some, mld_18 _ _ _ n0 n1, Option.bind_some, show (mU (mI s 38 1) 32 d n).2.2.1 18 n.toNat = s.2.2.1 18 n.toNat from by rw [mU_ne _ _ _ _ _ (by decide)]; rfl, mst_33 _ _ _ _ d0 (by omega), Option.bind_some, mgr_34, Option.bind_some, mgi_31, Option.bind_some, show (mU (mU (mI s 38 1) 32 d n) 33 d (s.2.2.1 18 n.toNat)).1 31 = d from h31, zi_0, mst_34 _ _ _ _ d0 (by omega), Option.bind_some, mgr_36, Option.bind_some, mgi_31, Option.bind_some, show (mU (mU (mU (mI s 38 1) 32 d n) 33 d (s.2.2.1 18 n.toNat)) 34 d 0).1 31 = d from h31, mst_36 _ _ _ _ d0 (by omega), Option.bind_some, mgi_31, Option.bind_some, show (mU (mU (mU (mU (mI s 38 1) 32 d n) 33 d (s.2.2.1 18 n.toNat)) 34 d 0) 36 d 0).1 31 = d from h31, show (1 : Int32) = Int32.ofInt 1 from rfl, zi_add, mpf_31, Option.bind_some, mgr_17, Option.bind_some, mld_17 _ _ _ n0 n1, Option.bind_some]
    rw [show (mI (mU (mU (mU (mU (mI s 38 1) 32 d n) 33 d (s.2.2.1 18 n.toNat)) 34 d 0) 36 d 0) 31 (d + 1)).2.2.1 17 n.toNat = k from by rw [mI_2, mU_ne _ _ _ _ _ (by decide), mU_ne _ _ _ _ _ (by decide), mU_ne _ _ _ _ _ (by decide), mU_ne _ _ _ _ _ (by decide)]; exact hk]
    rcases hk2 with rfl | rfl
    · rw [if_pos (show Int32.ofInt 65 = 65 from rfl), if_pos rfl, show (3 : Int32) = Int32.ofInt 3 from rfl, mpf_38, Option.bind_some]
      rfl
    · rw [if_neg (show ¬ Int32.ofInt 82 = 65 from by decide), if_neg (by decide), show (2 : Int32) = Int32.ofInt 2 from rfl, mpf_38, Option.bind_some]
      rfl
  have j49 : Model_meet_jn49 (ax_F (m + 4)) (some 24) (Int32.ofInt n) (Int32.ofInt q) (mH h s) = some (.inl (some (ax_I (Int32.ofInt q))), mH h (pS s d n (s.2.2.1 18 n.toNat) (if k = 65 then 3 else 2))) := by
    unfold Model_meet_jn49
    rw [show (1 : Int32) = Int32.ofInt 1 from rfl, mpf_38, Option.bind_some, mgr_17, Option.bind_some, mld_17 _ _ _ n0 n1, Option.bind_some, show (mI s 38 1).2.2.1 17 n.toNat = k from hk, j84]
    rcases hk2 with rfl | rfl
    · rw [if_pos (show Int32.ofInt 65 = 65 from rfl)]
    · rw [if_neg (show ¬ Int32.ofInt 82 = 65 from by decide), Option.bind_some, mld_17 _ _ _ n0 n1, Option.bind_some, show (mI s 38 1).2.2.1 17 n.toNat = 82 from hk, if_pos (show Int32.ofInt 82 = 82 from rfl)]
  unfold jnS
  rw [pl_ci j49]
  rfl
/-- what a scan may change -/
def scF (s s' : mS) : Prop := (∀ k, k ≠ 31 → k ≠ 38 → s'.1 k = s.1 k) ∧ (∀ k, k ≠ 32 → k ≠ 33 → k ≠ 34 → k ≠ 36 → s'.2.2.1 k = s.2.2.1 k) ∧ s'.2.2.2 = s.2.2.2
theorem scF_refl (s : mS) : scF s s := ⟨fun _ _ _ => rfl, fun _ _ _ _ _ => rfl, rfl⟩
theorem scF.trans {s s1 s2 : mS} (h : scF s s1) (h1 : scF s1 s2) : scF s s2 := ⟨fun k a b => (h1.1 k a b).trans (h.1 k a b), fun k a b c d => (h1.2.1 k a b c d).trans (h.2.1 k a b c d), h1.2.2.trans h.2.2⟩
def scK (d : Int) (s s' : mS) : Prop := ∀ k, k = 32 ∨ k = 33 ∨ k = 34 ∨ k = 36 → ∀ i : Nat, (i : Int) < d → s'.2.2.1 k i = s.2.2.1 k i
theorem scK_refl (d : Int) (s : mS) : scK d s s := fun _ _ _ _ => rfl
theorem scK.trans {d : Int} {s s1 s2 : mS} (h : scK d s s1) (h1 : scK d s1 s2) : scK d s s2 := fun k hk i hi => (h1 k hk i hi).trans (h k hk i hi)
theorem scK_le {d d' : Int} {s s' : mS} (h : scK d' s s') (hd : d ≤ d') : scK d s s' := fun k hk i hi => h k hk i (by omega)
theorem scF_S {s s' : mS} {N : Nat} {b : Int → Int} (h : scF s s') (S : isS s N b) : isS s' N b := by
  unfold isS at *
  rw [h.1 3 (by decide) (by decide), h.2.1 4 (by decide) (by decide) (by decide) (by decide)]
  exact S
theorem scF_17 {s s' : mS} (h : scF s s') {k : Nat} (h1 : 14 ≤ k) (h2 : k ≤ 25) : s'.2.2.1 k = s.2.2.1 k := h.2.1 k (by omega) (by omega) (by omega) (by omega)
theorem scF_N {s s' : mS} (h : scF s s') {c : Int → Int} {D : Nat} {n t : Int} (N : Nd s.2.2.1 c D n t) : Nd s'.2.2.1 c D n t := Nd_of (fun k h1 h2 => scF_17 h h1 h2) D n t N
theorem pS_F (s : mS) (d n ch k0 : Int) : scF s (pS s d n ch k0) := by
  refine ⟨fun k a b => ?_, fun k a b c e => ?_, rfl⟩
  · unfold pS; rw [mI_1, if_neg b, mI_1, if_neg a, mU_1, mU_1, mU_1, mU_1, mI_1, if_neg b]
  · unfold pS; rw [mI_2, mI_2, mU_ne _ _ _ _ _ e, mU_ne _ _ _ _ _ c, mU_ne _ _ _ _ _ b, mU_ne _ _ _ _ _ a]; rfl
theorem pS_K {s : mS} {d n ch k0 : Int} (d0 : 0 ≤ d) : scK d s (pS s d n ch k0) := fun k hk i hi => by
  unfold pS
  rw [mI_2, mI_2, mU_3, if_neg (by omega), mU_3, if_neg (by omega), mU_3, if_neg (by omega), mU_3, if_neg (by omega), mI_2]
theorem pS_v (s : mS) (d n ch k0 : Int) : (pS s d n ch k0).1 31 = d + 1 ∧ (pS s d n ch k0).1 38 = k0 ∧ (pS s d n ch k0).2.2.1 32 d.toNat = n ∧ (pS s d n ch k0).2.2.1 33 d.toNat = ch ∧ (pS s d n ch k0).2.2.1 34 d.toNat = 0 ∧ (pS s d n ch k0).2.2.1 36 d.toNat = 0 := by
  unfold pS
  refine ⟨rfl, rfl, ?_, ?_, ?_, ?_⟩
  · rw [mI_2, mI_2, mU_ne _ _ _ _ _ (by decide), mU_ne _ _ _ _ _ (by decide), mU_ne _ _ _ _ _ (by decide), mU_3, if_pos ⟨rfl, rfl⟩]
  · rw [mI_2, mI_2, mU_ne _ _ _ _ _ (by decide), mU_ne _ _ _ _ _ (by decide), mU_3, if_pos ⟨rfl, rfl⟩]
  · rw [mI_2, mI_2, mU_ne _ _ _ _ _ (by decide), mU_3, if_pos ⟨rfl, rfl⟩]
  · rw [mI_2, mI_2, mU_3, if_pos ⟨rfl, rfl⟩]
/-- scanning a value of the type at t, of level D, does what the text says -/
def simS (m : Nat) (h : ax_Hp) (c b : Int → Int) (N D : Nat) (run : Nat → Int → Int → mS → ax_O) (ok : Int → Prop) : Prop := ∀ (s : mS) (d q n t : Int), ok t → isS s N b → s.1 31 = d → 0 ≤ d → d + D ≤ 9 → Nd s.2.2.1 c D n t → 0 ≤ spTy c D t → 0 ≤ q → q ≤ N →
  (0 ≤ spSc c b D t q → ∃ (k : Nat) (s' : mS), k ≤ kS D ∧ (∀ fuel, run (fuel + k) n q s = lpS m h fuel (spSc c b D t q) s') ∧ scF s s' ∧ s'.1 31 = d ∧ s'.1 38 = 1 ∧ scK d s s') ∧
  (spSc c b D t q < 0 → ∃ (k : Nat) (s' : mS), k ≤ kS D ∧ (∀ fuel, run (fuel + k) n q s = some (.inl (some (ax_I (Int32.ofInt (spSc c b D t q)))), mH h s')) ∧ scF s s')
theorem kS_2 : ∀ D, 2 ≤ kS D
  | 0 => Nat.le_refl _
  | D + 1 => by show 2 ≤ 25 * (kS D + 4); omega
theorem spSc_lf {c b : Int → Int} {D : Nat} {t q : Int} (h : c t ≠ 65 ∧ c t ≠ 85 ∧ c t ≠ 82) : spSc c b D t q = spSl c b t q := by
  cases D with
  | zero => rfl
  | succ D => rw [spSc_s]; unfold spS1; rw [if_neg h.1, if_neg h.2.1, if_neg h.2.2]
/-- a leaf -/
theorem simS_leaf {m : Nat} {h : ax_Hp} {c b : Int → Int} {N : Nat} (D : Nat) : simS m h c b N D (jnS m h) (fun t => c t ≠ 65 ∧ c t ≠ 85 ∧ c t ≠ 82) := by
  intro s d q n t ok S h31 d0 hD Nn hT q0 q1
  have L := Nd_lf Nn
  have n64 := S.2.1
  have B := spSl_b (c := c) S.2.2.1 t q q0 q1
  have hc : isPl (c t) ∨ c t = 69 := by
    rcases spTy_c D t L.2.2.1 hT with z | z | z
    · exact Or.inl z
    · exact Or.inr z.1
    · rcases z.2 with w | w | w
      · exact absurd w ok.1
      · exact absurd w ok.2.1
      · exact absurd w ok.2.2
  rw [spSc_lf ok]
  obtain ⟨v, e, -⟩ := Model_tplain_z (m := m) (h := h) (s := mI s 38 1) (n := n) (t := t) (show isS (mI s 38 1) N b from S) L hc q0 q1
  have k2 := kS_2 D
  have bt : 0 ≤ c t ∧ c t < 128 := by rcases hc with (z | z | z | z | z) | z <;> omega
  have run : ∀ fuel, jnS m h fuel n q s = lpS m h fuel (spSl c b t q) (mL (mI s 38 1) v) := fun fuel => by
    unfold jnS Model_meet_jn49
    rw [show (1 : Int32) = Int32.ofInt 1 from rfl, mpf_38, Option.bind_some, mgr_17, Option.bind_some, mld_17 _ _ _ L.1 L.2.1, Option.bind_some, show (mI s 38 1).2.2.1 17 n.toNat = c t from L.2.2.2.1, if_neg (show ¬ Int32.ofInt (c t) = 65 from by rw [show (65 : Int32) = Int32.ofInt 65 from rfl, zi_eq (by omega) (by omega) (by omega) (by omega)]; exact ok.1), Option.bind_some, mld_17 _ _ _ L.1 L.2.1, Option.bind_some, show (mI s 38 1).2.2.1 17 n.toNat = c t from L.2.2.2.1, if_neg (show ¬ Int32.ofInt (c t) = 82 from by rw [show (82 : Int32) = Int32.ofInt 82 from rfl, zi_eq (by omega) (by omega) (by omega) (by omega)]; exact ok.2.2), mS_on, pl_ci e]
    rfl
  have F : scF s (mL (mI s 38 1) v) := ⟨fun k _ b => if_neg b, fun _ _ _ _ _ => rfl, rfl⟩
  refine ⟨fun z => ⟨0, _, by omega, run, F, h31, rfl, fun _ _ _ _ => rfl⟩, fun z => ⟨1, _, by omega, fun fuel => ?_, F⟩⟩
  rw [run]
  have := B.2 z
  exact lp_neg z (by omega)
