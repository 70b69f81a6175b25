/-- as ldF, but for the table's own text -/
def lxF (s s' : mS) (tb : Int) : Prop := (∀ k, k ≠ 777 → k ≠ 26 → k ≠ 29 → k ≠ 30 → k ≠ 31 → k ≠ 38 → k ≠ 39 → k ≠ 40 → s'.1 k = s.1 k) ∧ s'.2.2.2 = s.2.2.2 ∧ (∀ k, k ≠ 8 → k ≠ 14 → k ≠ 15 → (k < 16 ∨ 25 < k) → k ≠ 27 → k ≠ 28 → k ≠ 32 → k ≠ 33 → k ≠ 34 → k ≠ 35 → k ≠ 41 → s'.2.2.1 k = s.2.2.1 k) ∧ (∀ i : Nat, i ≠ tb.toNat → s'.2.2.1 15 i = s.2.2.1 15 i) ∧ (∀ i : Nat, ((i : Int) < 160 * tb ∨ 160 * tb + 160 ≤ i) → s'.2.2.1 14 i = s.2.2.1 14 i)
theorem lxF_of {s s1 s2 : mS} {tb n : Int} (hn : n ≤ 160) (e1 : s1.1 = s.1) (e3 : s1.2.2.2 = s.2.2.2) (e4 : ∀ j i, j ≠ 14 → s1.2.2.1 j i = (mU s 15 tb n).2.2.1 j i) (e5 : ∀ i : Nat, ((i : Int) < 160 * tb ∨ 160 * tb + n ≤ i) → s1.2.2.1 14 i = s.2.2.1 14 i) (L : ldF s1 s2 tb) : lxF s s2 tb := by
  obtain ⟨l1, l2, l3⟩ := L
  have f15 : s2.2.2.1 15 = s1.2.2.1 15 := l3 15 (by decide) (by omega) (by decide) (by decide) (by decide) (by decide) (by decide) (by decide) (by decide)
  have f14 : s2.2.2.1 14 = s1.2.2.1 14 := l3 14 (by decide) (by omega) (by decide) (by decide) (by decide) (by decide) (by decide) (by decide) (by decide)
  refine ⟨fun k k1 k2 k3 k4 k5 k6 k7 k8 => (l1 k k1 k2 k3 k4 k5 k6 k7 k8).trans (by rw [e1]), l2.trans e3, fun k k1 k2 k3 k4 k5 k6 k7 k8 k9 k10 k11 => ?_, fun i hi => ?_, fun i hi => ?_⟩
  · rw [l3 k k1 k4 k5 k6 k7 k8 k9 k10 k11]
    funext i
    rw [e4 k i k2, mU_ne _ _ _ _ _ k3]
  · rw [f15, e4 15 i (by decide), mU_3, if_neg (fun z => hi z.2)]
  · rw [f14]; exact e5 i (by omega)
/-- table t is given the typed text, which reads c -/
theorem Model_loadTyped_z {m : Nat} {h : ax_Hp} {s : mS} {c : Int → Int} {tb n : Int} (htb : tb = 0 ∨ tb = 1) (h7 : 0 ≤ s.1 7 ∧ s.1 7 ≤ 1000000) (hn : s.1 1 = n) (n0 : 0 ≤ n) (n1 : n ≤ 160) (ht : ∀ p : Int, 0 ≤ p → p < n → s.2.2.1 2 p.toNat = c p) (hz : ∀ p : Int, n ≤ p → c p = 0) (hb : ∀ p : Int, 0 ≤ c p ∧ c p < 128) (hcs : ∀ i, 0 ≤ s.2.2.1 2 i ∧ s.2.2.1 2 i < 65536) :
    ∃ s', ax_F (m + 10) 152 [ax_A (some 24), ax_I (Int32.ofInt tb)] (mH h s) = some (.inl (some (ax_I (Int32.ofInt (spRes c n)))), mH h s') ∧ lxF s s' tb ∧ isT s' tb c ∧ s'.2.2.1 15 tb.toNat = n ∧ s'.1 39 = 0 ∧ (spRes c n < 0 → tbP s' c tb ∧ otF s s' tb ∧ s'.1 7 = s.1 7 ∧ tbM s' c tb) := by
  rw [Model_loadTyped_F]
  unfold Model_loadTyped_b
  rw [mgr_15, Option.bind_some, mgi_1, Option.bind_some, hn, mst_15 _ _ _ _ (by omega) (by omega), Option.bind_some]
  obtain ⟨s1, e, e1, e2, e3, e4, e5⟩ := Model_loadTyped_l (m := m + 9) (t := tb) (n := n) (h := h) (by omega) (by omega) n1 n.toNat (mU s 15 tb n) ax_fuel (by omega) (by unfold ax_fuel; omega) hn (fun i => by rw [mU_ne _ _ _ _ _ (by decide)]; exact hcs i)
  rw [show n - (n.toNat : Int) = 0 by omega] at e
  have z15 : s1.2.2.1 15 tb.toNat = n := by rw [e4 15 _ (by decide), mU_3, if_pos ⟨rfl, rfl⟩]
  have T1 : isT s1 tb c := by
    refine ⟨by rw [z15]; exact n0, by rw [z15]; exact n1, fun p p0 p1 => ?_, fun p p0 => hz p (by rw [z15] at p0; exact p0), hb⟩
    rw [z15] at p1
    rw [e5 (160 * tb + p).toNat, if_pos (by omega), mU_ne _ _ _ _ _ (by decide), show (((160 * tb + p).toNat : Nat) - 160 * tb : Int).toNat = p.toNat by omega]
    exact ht p p0 p1
  obtain ⟨s2, q, L, q39, qT⟩ := Model_readSchema_z (m := m) (h := h) (s := s1) T1 htb (by rw [e1]; exact h7)
  rw [z15] at q qT
  refine ⟨s2, Eq.trans e (Eq.trans (pl_ci q) rfl), lxF_of n1 e1 e3 e4 (fun i hi => by rw [e5 i, if_neg (by omega), mU_ne _ _ _ _ _ (by decide)]) L, isT_of T1 (L.2.2 15 (by decide) (by omega) (by decide) (by decide) (by decide) (by decide) (by decide) (by decide) (by decide)) (L.2.2 14 (by decide) (by omega) (by decide) (by decide) (by decide) (by decide) (by decide) (by decide) (by decide)), by rw [L.2.2 15 (by decide) (by omega) (by decide) (by decide) (by decide) (by decide) (by decide) (by decide) (by decide)]; exact z15, q39, fun w => ?_⟩
  obtain ⟨a1, ⟨b1, b2, b3⟩, a3, a4⟩ := qT w
  refine ⟨a1, ⟨fun i hi => ?_, fun k k1 k2 i hi => ?_, fun i hi => ?_⟩, a3.trans (by rw [e1]; rfl), a4⟩
  · rw [b1 i hi, e4 16 i (by decide), mU_ne _ _ _ _ _ (by decide)]
  · rw [b2 k k1 k2 i hi, e4 k i (by omega), mU_ne _ _ _ _ _ (by omega)]
  · rw [b3 i hi, e4 25 i (by decide), mU_ne _ _ _ _ _ (by decide)]
theorem Model_load_l {m : Nat} {t n w : Int} {h : ax_Hp} (ht : 0 ≤ t) (ht1 : t < 2) (hn : n ≤ 160) (w0 : 0 ≤ w) (w1 : w < 24) : ∀ (k : Nat) (s : mS) (fuel : Nat), (k : Int) ≤ n → k < fuel → s.2.2.1 15 t.toNat = n → (∀ i, 0 ≤ s.2.2.1 12 i ∧ s.2.2.1 12 i < 65536) → ∃ s' : mS, Model_load_lp14 (ax_F m) fuel (some 24) (Int32.ofInt t) (Int32.ofInt w) (Int32.ofInt (n - k)) (mH h s) = ax_ci (ax_F m 153 [ax_A (some 24), ax_I (Int32.ofInt t)] (mH h s')) (fun v8 h7 => ax_rv h7) ∧ s'.1 = s.1 ∧ s'.2.1 = s.2.1 ∧ s'.2.2.2 = s.2.2.2 ∧ (∀ j i, j ≠ 14 → s'.2.2.1 j i = s.2.2.1 j i) ∧ (∀ i : Nat, s'.2.2.1 14 i = if 160 * t + n - k ≤ i ∧ i < 160 * t + n then s.2.2.1 12 (160 * w + (i - 160 * t)).toNat else s.2.2.1 14 i)
  | 0, s, fuel, hk, hf, hs, hc => by
    obtain ⟨fuel, rfl⟩ : ∃ g, fuel = g + 1 := ⟨fuel - 1, by omega⟩
    refine ⟨s, ?_, rfl, rfl, rfl, fun _ _ _ => rfl, fun i => (if_neg (by omega)).symm⟩
    have hstep : Model_load_lp14 (ax_F m) (fuel + 1) = Model_load_bd14 (ax_F m) (Model_load_lp14 (ax_F m) fuel) := rfl
    rw [hstep]
    unfold Model_load_bd14
    simp (disch := omega) only [↓mgr_12, ↓mgr_14, ↓mgr_15, mld_12, mld_15, mstc_14, mS_on, Option.bind_some, ↓zi_lit, zi_add, zi_mul, zi_le, hs]
    rw [if_pos (by omega)]
  | k + 1, s, fuel, hk, hf, hs, hc => by
    obtain ⟨fuel, rfl⟩ : ∃ g, fuel = g + 1 := ⟨fuel - 1, by omega⟩
    have hstep : Model_load_lp14 (ax_F m) (fuel + 1) = Model_load_bd14 (ax_F m) (Model_load_lp14 (ax_F m) fuel) := rfl
    rw [hstep]
    unfold Model_load_bd14
    obtain ⟨s', e, e1, e2, e3, e4, e5⟩ := Model_load_l ht ht1 hn w0 w1 (m := m) (h := h) k (mU s 14 (160 * t + (n - ((k + 1 : Nat) : Int))) (s.2.2.1 12 (160 * w + (n - ((k + 1 : Nat) : Int))).toNat)) fuel (by omega) (by omega) (by rw [mU_ne _ _ _ _ _ (by decide)]; exact hs) (fun i => by rw [mU_3, if_neg (fun c => absurd c.1 (by decide))]; exact hc i)
    have := hc (160 * w + (n - ((k + 1 : Nat) : Int))).toNat
    refine ⟨s', ?_, e1, e2, e3, fun j i hj => (e4 j i hj).trans (if_neg (fun c => hj c.1)), fun i => ?_⟩
    · simp (disch := omega) only [↓mgr_12, ↓mgr_14, ↓mgr_15, mld_12, mld_15, mstc_14, mS_on, Option.bind_some, ↓zi_lit, zi_add, zi_mul, zi_le, hs]
      rw [if_neg (by omega)]
      rw [show n - ((k + 1 : Nat) : Int) + 1 = n - (k : Int) by omega]
      exact e
    · rw [e5 i]
      by_cases c : 160 * t + n - k ≤ i ∧ i < 160 * t + n
      · rw [if_pos c, if_pos (by omega), mU_3, if_neg (fun z => absurd z.1 (by decide))]
      · rw [if_neg c, mU_3]
        by_cases c2 : i = (160 * t + (n - ((k + 1 : Nat) : Int))).toNat
        · rw [if_pos ⟨rfl, c2⟩, if_pos (by omega), show (160 * w + ((i : Int) - 160 * t)).toNat = (160 * w + (n - ((k + 1 : Nat) : Int))).toNat by omega]
        · rw [if_neg (fun z => c2 z.2), if_neg (by omega)]
/-- table t is given version w, whose text reads c -/
theorem Model_load_z {m : Nat} {h : ax_Hp} {s : mS} {c : Int → Int} {tb n w : Int} (htb : tb = 0 ∨ tb = 1) (w0 : 0 ≤ w) (w1 : w < 24) (h7 : 0 ≤ s.1 7 ∧ s.1 7 ≤ 1000000) (hn : s.2.2.1 13 w.toNat = n) (n0 : 0 ≤ n) (n1 : n ≤ 160) (ht : ∀ p : Int, 0 ≤ p → p < n → s.2.2.1 12 (160 * w + p).toNat = c p) (hz : ∀ p : Int, n ≤ p → c p = 0) (hb : ∀ p : Int, 0 ≤ c p ∧ c p < 128) (hcs : ∀ i, 0 ≤ s.2.2.1 12 i ∧ s.2.2.1 12 i < 65536) (hok : spTy c 6 0 = n) :
    ∃ s', ax_F (m + 10) 180 [ax_A (some 24), ax_I (Int32.ofInt tb), ax_I (Int32.ofInt w)] (mH h s) = some (.inl none, mH h s') ∧ lxF s s' tb ∧ isT s' tb c ∧ s'.2.2.1 15 tb.toNat = n ∧ s'.1 39 = 0 ∧ tbP s' c tb ∧ otF s s' tb ∧ s'.1 7 = s.1 7 ∧ tbM s' c tb := by
  have hr : spRes c n = -1 := by unfold spRes; rw [if_pos (by omega), if_pos hok]
  rw [Model_load_F]
  unfold Model_load_b
  rw [mgr_15, Option.bind_some, mgr_13, Option.bind_some, mld_13 _ _ _ w0 w1, Option.bind_some, hn, mst_15 _ _ _ _ (by omega) (by omega), Option.bind_some]
  obtain ⟨s1, e, e1, e2, e3, e4, e5⟩ := Model_load_l (m := m + 9) (t := tb) (n := n) (w := w) (h := h) (by omega) (by omega) n1 w0 w1 n.toNat (mU s 15 tb n) ax_fuel (by omega) (by unfold ax_fuel; omega) (by rw [mU_3, if_pos ⟨rfl, rfl⟩]) (fun i => by rw [mU_ne _ _ _ _ _ (by decide)]; exact hcs i)
  rw [show n - (n.toNat : Int) = 0 by omega] at e
  have z15 : s1.2.2.1 15 tb.toNat = n := by rw [e4 15 _ (by decide), mU_3, if_pos ⟨rfl, rfl⟩]
  have T1 : isT s1 tb c := by
    refine ⟨by rw [z15]; exact n0, by rw [z15]; exact n1, fun p p0 p1 => ?_, fun p p0 => hz p (by rw [z15] at p0; exact p0), hb⟩
    rw [z15] at p1
    rw [e5 (160 * tb + p).toNat, if_pos (by omega), mU_ne _ _ _ _ _ (by decide), show (160 * w + (((160 * tb + p).toNat : Nat) - 160 * tb : Int)).toNat = (160 * w + p).toNat by omega]
    exact ht p p0 p1
  obtain ⟨s2, q, L, q39, qT⟩ := Model_readSchema_z (m := m) (h := h) (s := s1) T1 htb (by rw [e1]; exact h7)
  rw [z15] at q qT
  obtain ⟨a1, ⟨b1, b2, b3⟩, a3, a4⟩ := qT (by rw [hr]; decide)
  refine ⟨s2, Eq.trans e (Eq.trans (pl_ci q) rfl), lxF_of n1 e1 e3 e4 (fun i hi => by rw [e5 i, if_neg (by omega), mU_ne _ _ _ _ _ (by decide)]) L, isT_of T1 (L.2.2 15 (by decide) (by omega) (by decide) (by decide) (by decide) (by decide) (by decide) (by decide) (by decide)) (L.2.2 14 (by decide) (by omega) (by decide) (by decide) (by decide) (by decide) (by decide) (by decide) (by decide)), by rw [L.2.2 15 (by decide) (by omega) (by decide) (by decide) (by decide) (by decide) (by decide) (by decide) (by decide)]; exact z15, q39, a1, ⟨fun i hi => ?_, fun k k1 k2 i hi => ?_, fun i hi => ?_⟩, a3.trans (by rw [e1]; rfl), a4⟩
  · rw [b1 i hi, e4 16 i (by decide), mU_ne _ _ _ _ _ (by decide)]
  · rw [b2 k k1 k2 i hi, e4 k i (by omega), mU_ne _ _ _ _ _ (by omega)]
  · rw [b3 i hi, e4 25 i (by decide), mU_ne _ _ _ _ _ (by decide)]
