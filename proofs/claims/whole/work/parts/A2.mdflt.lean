theorem spElO_0 {v f : Int → Int} {g : Int → List Int} (hg : ∀ q, g q = []) : ∀ (k : Nat) (q : Int), spElO 0 v f g k q = []
  | 0, _ => rfl
  | k + 1, q => by
    rw [spElO_s, hg, if_neg (show ¬ (0 : Int) = 2 by decide), spElO_0 hg k]
    split <;> rfl
theorem spFsO_0 {f : Int → Int → Int} {g : Int → Int → List Int} (hg : ∀ t q, g t q = []) : ∀ (l : List Int) (q : Int), spFsO 0 f g l q = []
  | [], _ => rfl
  | [x], q => hg _ _
  | x :: y :: l, q => by
    show g (x + 2) q ++ ((if (0 : Int) = 2 then [44] else []) ++ spFsO 0 f g (y :: l) (f (x + 2) q + 1)) = []
    rw [hg, if_neg (by decide), spFsO_0 hg (y :: l)]
    rfl
theorem spO_0 {c v : Int → Int} {val : Bool} : ∀ (D : Nat) (t q : Int), spO 0 c v val D t q = []
  | 0, t, q => by
    show spLo 0 c v t q = []
    unfold spLo
    rw [if_neg (by decide), if_neg (by decide)]
  | D + 1, t, q => by
    rw [spO_s]
    unfold spO1
    split
    · split
      · rfl
      · rw [if_neg (by decide), if_neg (by decide), if_neg (by decide), if_neg (by decide), spElO_0 (spO_0 D (t + 1))]; rfl
    · split
      · split
        · rw [if_neg (by decide), if_neg (by decide), spO_0 D]; rfl
        · rw [if_neg (by decide), spO_0 D]; rfl
      · split
        · rw [if_neg (by decide), if_neg (by decide), spFsO_0 (spO_0 D)]; rfl
        · unfold spLo
          rw [if_neg (by decide), if_neg (by decide)]
/-- what a default's reading leaves as it was: all but 29, 30, 31, 38, 40; 32 to 35, 41; given of f; the marks of p .. e -/
def dfF (s s' : mS) (tb f p e : Int) : Prop := (∀ k, k ≠ 29 → k ≠ 30 → k ≠ 31 → k ≠ 38 → k ≠ 40 → s'.1 k = s.1 k) ∧ s'.2.2.2 = s.2.2.2 ∧ (∀ k, k ≠ 24 → k ≠ 25 → k ≠ 32 → k ≠ 33 → k ≠ 34 → k ≠ 35 → k ≠ 41 → s'.2.2.1 k = s.2.2.1 k) ∧ (∀ i : Nat, i ≠ f.toNat → s'.2.2.1 24 i = s.2.2.1 24 i) ∧ s'.2.2.1 24 f.toNat = p + 1 ∧ (∀ i : Nat, s'.2.2.1 25 i = if 160 * tb + p ≤ i ∧ (i : Int) < 160 * tb + e then 1 else s.2.2.1 25 i)
/-- what is left as it was when a schema is read, all in all -/
def glF (s s' : mS) : Prop := (∀ k, k ≠ 777 → k ≠ 26 → k ≠ 29 → k ≠ 30 → k ≠ 31 → k ≠ 38 → k ≠ 40 → s'.1 k = s.1 k) ∧ s'.2.2.2 = s.2.2.2 ∧ (∀ k, k ≠ 8 → (k < 16 ∨ 25 < k) → k ≠ 27 → k ≠ 28 → k ≠ 32 → k ≠ 33 → k ≠ 34 → k ≠ 35 → k ≠ 41 → s'.2.2.1 k = s.2.2.1 k)
theorem glF_refl (s : mS) : glF s s := ⟨fun _ _ _ _ _ _ _ _ => rfl, rfl, fun _ _ _ _ _ _ _ _ _ _ => rfl⟩
theorem glF.trans {s s1 s2 : mS} (h : glF s s1) (h1 : glF s1 s2) : glF s s2 := ⟨fun k a b c d e f g => (h1.1 k a b c d e f g).trans (h.1 k a b c d e f g), h1.2.1.trans h.2.1, fun k a b c d e f g i j => (h1.2.2 k a b c d e f g i j).trans (h.2.2 k a b c d e f g i j)⟩
theorem Model_beh_D {m : Nat} {h : ax_Hp} {s : mS} {c : Int → Int} {tb p o n f t : Int} {D : Nat} (T : isT s tb c) (htb : tb = 0 ∨ tb = 1) (hp : 0 ≤ p ∧ p ≤ 160) (ho : s.1 26 = o) (o0 : 0 < o) (o1 : o ≤ 8) (hn : s.2.2.1 27 (o - 1).toNat = n) (n0 : 0 ≤ n) (n1 : n < 240) (hk : s.2.2.1 17 n.toNat = 82) (hd : c p = 61) (hf : s.2.2.1 28 (o - 1).toNat = f) (f0 : 0 ≤ f) (hD : (D : Int) ≤ 8) (N : NdS s.2.2.1 c D f t) (hN : f + spN c D t ≤ 240) (h39 : s.1 39 = 0) (h7 : 0 ≤ s.1 7 ∧ s.1 7 ≤ 1000000) :
    (0 ≤ spVal c c false D t (p + 1) → ∃ s', ax_F (m + 8) 154 [ax_A (some 24), ax_I (Int32.ofInt tb), ax_I (Int32.ofInt p)] (mH h s) = Model_readBehind_jn179 (ax_F (m + 7)) (some 24) (Int32.ofInt tb) (Int32.ofInt (spVal c c false D t (p + 1))) (Int32.ofInt n) (mH h (mI s' 38 1)) ∧ dfF s s' tb f p (spVal c c false D t (p + 1))) ∧
    (spVal c c false D t (p + 1) < 0 → ∃ s', ax_F (m + 8) 154 [ax_A (some 24), ax_I (Int32.ofInt tb), ax_I (Int32.ofInt p)] (mH h s) = some (.inl (some (ax_I (Int32.ofInt (spVal c c false D t (p + 1))))), mH h s') ∧ glF s s') := by
  have b := T.2.2.2.2 p
  have zN := T.2.1
  have hc := T.2.2.2.1
  have lp := lt_of hc (q := p) (by omega)
  have hv : ∀ q, 160 ≤ q → c q = 0 := fun q hq => hc q (by omega)
  have fl : f < 240 := by have := spN_1 c D t; omega
  have T1 : isT (mI s 38 1) tb c := isT_of T rfl rfl
  have T2 : isT (mU (mI s 38 1) 24 f (p + 1)) tb c := isT_of T (mU_ne _ _ _ _ _ (by decide)) (mU_ne _ _ _ _ _ (by decide))
  have V2 : isV (rtS (mU (mI s 38 1) 24 f (p + 1)) tb false) c := Or.inl ⟨rfl, htb, isT_of T2 rfl rfl⟩
  have X : tcx c c false (rtS (mU (mI s 38 1) 24 f (p + 1)) tb false) 0 (p + 1) := ⟨isT_of T2 rfl rfl, htb, V2, rfl, by show 0 ≤ s.1 39 ∧ s.1 39 ≤ 2; omega, rfl, Int.le_refl _, by show (0 : Int) ≤ 0 ∧ 2 * 0 ≤ p + 1 + 0; omega, by show 0 ≤ s.1 7 ∧ s.1 7 + 40 * (200 - (p + 1)) ≤ 500000000; omega, by omega⟩
  have N2 : Nd (mU (mI s 38 1) 24 f (p + 1)).2.2.1 c D f t := NdS_Nd D f t hN (NdS_fr D f t (fun k hk i _ _ => by rw [mU_ne _ _ _ _ _ (by omega), mI_2]) (fun k hk i h1 h2 => by rw [mU_3, if_neg (by omega), mI_2]) N)
  obtain ⟨R1, R2⟩ := Model_readText_z (m := m) (h := h) (s := mU (mI s 38 1) 24 f (p + 1)) (c := c) (v := c) (val := false) (tb := tb) (n := f) (t := t) (q := p + 1) (D := D) hv X (by show s.1 7 + _ + _ ≤ _; omega) hD N2 (fun z => absurd z (by show ¬ s.1 39 = 1; omega))
  have B := spVal_b (c := c) (val := false) hv D t (p + 1) (by omega) (by omega)
  unfold bd at B
  have pre : ax_F (m + 8) 154 [ax_A (some 24), ax_I (Int32.ofInt tb), ax_I (Int32.ofInt p)] (mH h s) = ax_ci (ax_F (m + 7) 156 [ax_A (some 24), ax_I (Int32.ofInt tb), ax_I (Int32.ofInt f), ax_I (Int32.ofInt (p + 1)), ax_I (Int32.ofInt 0)] (mH h (mU (mI s 38 1) 24 f (p + 1)))) fun v35 h34 => if 0 ≤ v35 then Model_readBehind_lp144 (ax_F (m + 7)) ax_fuel (some 24) (Int32.ofInt tb) (Int32.ofInt n) v35 (Int32.ofInt p) h34 else ax_ri v35 h34 := by
    rw [Model_readBehind_F]
    unfold Model_readBehind_b
    rw [show (1 : Int32) = Int32.ofInt 1 from rfl, mpf_38, Option.bind_some, mgi_26, Option.bind_some, show (mI s 38 1).1 26 = o from ho, if_neg (show ¬ Int32.ofInt o = 0 from by rw [zi_0, zi_eq (by omega) (by omega) (by omega) (by omega)]; omega), mgr_27, Option.bind_some, Option.bind_some, zi_sub, mld_27 _ _ _ (by omega) (by omega), Option.bind_some, show (mI s 38 1).2.2.1 27 (o - 1).toNat = n from hn, mgr_17, Option.bind_some, mld_17 _ _ _ n0 n1, Option.bind_some, show (mI s 38 1).2.2.1 17 n.toNat = 82 from hk]
    rw [if_neg (show ¬ Int32.ofInt 82 = 65 from by decide), Option.bind_some, mld_17 _ _ _ n0 n1, Option.bind_some, show (mI s 38 1).2.2.1 17 n.toNat = 82 from hk, if_pos (show Int32.ofInt 82 = 82 from rfl), mS_on, pl_ci (Model_look_z T1 (by omega) (by omega) hp.1 (by omega)), if_pos (show Int32.ofInt (c p) = 61 from by rw [hd]; rfl)]
    rw [mgr_28, Option.bind_some, mgi_26, Option.bind_some, show (mI s 38 1).1 26 = o from ho, zi_sub, mld_28 _ _ _ (by omega) (by omega), Option.bind_some, show (mI s 38 1).2.2.1 28 (o - 1).toNat = f from hf, mgr_24, Option.bind_some, zi_add, mst_24 _ _ _ _ f0 fl, Option.bind_some, mS_on]
    rfl
  refine ⟨fun z => ?_, fun z => ?_⟩
  · obtain ⟨s1, e1, F, f31, f38, fst, fsd, fel⟩ := R1 z
    rw [show (mU (mI s 38 1) 24 f (p + 1)).1 39 = 0 from h39, spO_0] at fsd
    obtain ⟨s2, e2, r1, r2, r3, r4, r5⟩ := Model_extra_l (m := m + 7) (h := h) (tb := tb) (n := n) htb (spVal c c false D t (p + 1) - p).toNat s1 p (spVal c c false D t (p + 1)) ax_fuel hp.1 (by omega) (by omega) (by unfold ax_fuel; omega)
    have d7 : s1.1 7 = s.1 7 := (congrArg Prod.fst fsd)
    have d8 : s1.2.2.1 8 = s.2.2.1 8 := (congrArg Prod.snd fsd).trans (show (mU (mI s 38 1) 24 f (p + 1)).2.2.1 8 = s.2.2.1 8 from mU_ne _ _ _ _ _ (by decide))
    have ag : ∀ k, k ≠ 25 → k ≠ 24 → k ≠ 32 → k ≠ 33 → k ≠ 34 → k ≠ 35 → k ≠ 41 → s2.2.2.1 k = s.2.2.1 k := fun k k1 k2 k3 k4 k5 k6 k7 => by
      rw [r4 k k1]
      by_cases k8 : k = 8
      · rw [k8]; exact d8
      · rw [F.2.1 k k8 k3 k4 k5 k6 k7]
        exact mU_ne _ _ _ _ _ k2
    have a24 : s2.2.2.1 24 = (mU (mI s 38 1) 24 f (p + 1)).2.2.1 24 := by rw [r4 24 (by decide), F.2.1 24 (by decide) (by decide) (by decide) (by decide) (by decide) (by decide)]; rfl
    refine ⟨s2, ?_, fun k k1 k2 k3 k4 k5 => ?_, ?_, fun k k1 k2 k3 k4 k5 k6 k7 => ag k k2 k1 k3 k4 k5 k6 k7, fun i hi => ?_, ?_, fun i => ?_⟩
    · rw [pre]
      refine Eq.trans (pl_ci e1) ?_
      rw [if_pos (show (0 : Int32) ≤ Int32.ofInt (spVal c c false D t (p + 1)) from by rw [zi_0, zi_le (by omega) (by omega) (by omega) (by omega)]; exact z)]
      exact e2
    · rw [r1]
      by_cases k7 : k = 7
      · rw [k7]; exact d7
      · rw [F.1 k k7 k3 k4 k5]
        show (if k = 38 then _ else if k = 40 then _ else if k = 31 then _ else if k = 30 then _ else if k = 29 then _ else (mI s 38 1).1 k) = _
        rw [if_neg k4, if_neg k5, if_neg k3, if_neg k2, if_neg k1, mI_1, if_neg k4]
    · rw [r3, F.2.2]; rfl
    · rw [a24, mU_3, if_neg (fun w => hi w.2), mI_2]
    · rw [a24, mU_3, if_pos ⟨rfl, rfl⟩]
    · rw [r5 i, F.2.1 25 (by decide) (by decide) (by decide) (by decide) (by decide) (by decide)]
      show (if _ then 1 else (mU (mI s 38 1) 24 f (p + 1)).2.2.1 25 i) = _
      rw [mU_ne _ _ _ _ _ (by decide), mI_2]
  · obtain ⟨s1, e1, F, F7⟩ := R2 z
    refine ⟨s1, ?_, fun k k1 k2 k3 k4 k5 k6 k7 => ?_, F.2.2, fun k k1 k2 k3 k4 k5 k6 k7 k8 k9 => ?_⟩
    rotate_left
    · by_cases k0 : k = 7
      · rw [k0]; exact F7 h39
      rw [F.1 k k0 k5 k6 k7]
      show (if k = 38 then _ else if k = 40 then _ else if k = 31 then _ else if k = 30 then _ else if k = 29 then _ else (mI s 38 1).1 k) = _
      rw [if_neg k6, if_neg k7, if_neg k5, if_neg k4, if_neg k3, mI_1, if_neg k6]
    · rw [F.2.1 k k1 k5 k6 k7 k8 k9]
      exact mU_ne _ _ _ _ _ (by omega)
    rw [pre]
    refine Eq.trans (pl_ci e1) ?_
    rw [if_neg (show ¬ (0 : Int32) ≤ Int32.ofInt (spVal c c false D t (p + 1)) from by rw [zi_0, zi_le (by omega) (by omega) (by omega) (by omega)]; omega)]
    rfl
