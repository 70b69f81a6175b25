/-- the loop of readText, at place p; behind an enter -/
def rt (m : Nat) (h : ax_Hp) (fuel : Nat) (p : Int) (s : mS) : ax_O := Model_readText_lp34 (ax_F (m + 6)) fuel (some 24) (Int32.ofInt p) (mH h s)
def re (m : Nat) (h : ax_Hp) (fuel : Nat) (n q : Int) (s : mS) : ax_O := ax_ci (ax_F (m + 6) 157 [ax_A (some 24), ax_I (Int32.ofInt n), ax_I (Int32.ofInt q)] (mH h s)) (fun x g => Model_readText_lp34 (ax_F (m + 6)) fuel (some 24) x g)
def rj (m : Nat) (h : ax_Hp) (fuel : Nat) (n q : Int) (s : mS) : ax_O := ax_ci (Model_enter_jn142 (ax_F (m + 5)) (some 24) (Int32.ofInt n) (Int32.ofInt q) (mH h s)) (fun x g => Model_readText_lp34 (ax_F (m + 6)) fuel (some 24) x g)
theorem rt_s (m : Nat) (h : ax_Hp) (fuel : Nat) (p : Int) (s : mS) : rt m h (fuel + 1) p s = Model_readText_bd34 (ax_F (m + 6)) (Model_readText_lp34 (ax_F (m + 6)) fuel) (some 24) (Int32.ofInt p) (mH h s) := rfl
theorem rt_neg {m : Nat} {h : ax_Hp} {fuel : Nat} {p : Int} {s : mS} (h1 : p < 0) (h2 : -1000000 ≤ p) : rt m h (fuel + 1) p s = some (.inl (some (ax_I (Int32.ofInt p))), mH h s) := by
  rw [rt_s]
  unfold Model_readText_bd34
  rw [if_pos (show Int32.ofInt p < 0 from by rw [zi_0, zi_lt (by omega) (by omega) (by omega) (by omega)]; exact h1)]
  rfl
theorem rt_end {m : Nat} {h : ax_Hp} {fuel : Nat} {p : Int} {s : mS} (h1 : 0 ≤ p) (h2 : p ≤ 1000000) (hs : s.1 38 = 1) (hd : s.1 31 = 0) : rt m h (fuel + 1) p s = some (.inl (some (ax_I (Int32.ofInt p))), mH h s) := by
  rw [rt_s]
  unfold Model_readText_bd34
  rw [if_neg (show ¬ Int32.ofInt p < 0 from by rw [zi_0, zi_lt (by omega) (by omega) (by omega) (by omega)]; omega), mgi_38, Option.bind_some, hs, if_neg (by decide), mgi_31, Option.bind_some, hd, if_pos (by decide)]
  rfl
theorem rt_ent {m : Nat} {h : ax_Hp} {fuel : Nat} {p d n : Int} {s : mS} (h1 : 0 ≤ p) (h2 : p ≤ 1000000) (hs : s.1 38 = 2) (hd : s.1 31 = d + 1) (d0 : 0 ≤ d) (d1 : d < 10) (hn : s.2.2.1 33 d.toNat = n) : rt m h (fuel + 1) p s = re m h fuel n p s := by
  rw [rt_s]
  unfold Model_readText_bd34 Model_readText_jn54
  rw [if_neg (show ¬ Int32.ofInt p < 0 from by rw [zi_0, zi_lt (by omega) (by omega) (by omega) (by omega)]; omega)]
  simp (disch := omega) only [↓mgi_31, ↓mgi_38, ↓mgr_33, mld_33, mS_on, Option.bind_some, ↓zi_lit, zi_sub, zi_le, ↓reduceIte, eq_self, hs, hd]
  rw [show d + 1 - 1 = d by omega, hn]
  rfl
theorem rt_beh {m : Nat} {h : ax_Hp} {fuel : Nat} {p d : Int} {s : mS} (h1 : 0 ≤ p) (h2 : p ≤ 1000000) (hs : s.1 38 = 1) (hd : s.1 31 = d + 1) (d0 : 0 ≤ d) (d1 : d < 10) : rt m h (fuel + 1) p s = ax_ci (ax_F (m + 6) 170 [ax_A (some 24), ax_I (Int32.ofInt p)] (mH h s)) (fun x g => Model_readText_lp34 (ax_F (m + 6)) fuel (some 24) x g) := by
  rw [rt_s]
  unfold Model_readText_bd34 Model_readText_jn54
  rw [if_neg (show ¬ Int32.ofInt p < 0 from by rw [zi_0, zi_lt (by omega) (by omega) (by omega) (by omega)]; omega)]
  simp (disch := omega) only [↓mgi_31, ↓mgi_38, ↓mgr_33, mld_33, mS_on, Option.bind_some, ↓zi_lit, zi_sub, zi_le, zi_eq, ↓reduceIte, Int.reduceEq, hs, hd]
  rw [if_neg (by omega)]
theorem tcx_of {c v : Int → Int} {val : Bool} {s s1 : mS} {d d1 q q1 : Int} (X : tcx c v val s d q) (F : txF s s1) (h31 : s1.1 31 = d1) (hd : 0 ≤ d1) (h40 : 0 ≤ s1.1 40 ∧ 2 * s1.1 40 ≤ q1 + d1) (h7 : 0 ≤ s1.1 7 ∧ s1.1 7 + 40 * (200 - q1) ≤ 500000000) (hq : 0 ≤ q1 ∧ q1 ≤ 160) : tcx c v val s1 d1 q1 := by
  obtain ⟨x1, x2, x3, x4, x5, x6, x7, x8, x9, x10⟩ := X
  have e30 := F.1 30 (by decide) (by decide) (by decide) (by decide)
  have e29 := F.1 29 (by decide) (by decide) (by decide) (by decide)
  have e39 := F.1 39 (by decide) (by decide) (by decide) (by decide)
  exact ⟨by rw [e30]; exact txF_isT F x1, by rw [e30]; exact x2, txF_isV F x3, by rw [e29]; exact x4, by rw [e39]; exact x5, h31, hd, h40, h7, hq⟩
theorem txF_17 {s s1 : mS} (F : txF s s1) {k : Nat} (h1 : 14 ≤ k) (h2 : k ≤ 25) : s1.2.2.1 k = s.2.2.1 k := F.2.1 k (by omega) (by omega) (by omega) (by omega) (by omega) (by omega)
theorem txF_39 {s s1 : mS} (F : txF s s1) : s1.1 39 = s.1 39 := F.1 39 (by decide) (by decide) (by decide) (by decide)
theorem ndCh_of {nx nx' : Nat → Int} {P P' : Int → Int → Prop} (hP : ∀ n x, P n x → P' n x) (hn : ∀ i, nx' i = nx i) : ∀ (l : List Int) (n : Int), ndCh nx P n l → ndCh nx' P' n l
  | [], _, h => h
  | x :: l, n, ⟨h1, h2, h3, h4⟩ => ⟨h1, h2, hP _ _ h3, by rw [hn]; exact ndCh_of hP hn l _ h4⟩
theorem lfN_of {A A' : Nat → Nat → Int} {c : Int → Int} {n t : Int} (h : ∀ k, 14 ≤ k → k ≤ 25 → A' k = A k) (L : lfN A c n t) : lfN A' c n t := by
  unfold lfN eN at *
  rw [h 17 (by decide) (by decide), h 22 (by decide) (by decide), h 20 (by decide) (by decide), h 23 (by decide) (by decide)]
  exact L
theorem Nd_of {A A' : Nat → Nat → Int} {c : Int → Int} (h : ∀ k, 14 ≤ k → k ≤ 25 → A' k = A k) : ∀ (D : Nat) (n t : Int), Nd A c D n t → Nd A' c D n t
  | 0, n, t, ⟨L, r⟩ => ⟨lfN_of h L, r⟩
  | D + 1, n, t, ⟨L, h1, h2, h3⟩ => by
    refine ⟨lfN_of h L, fun z => ?_, fun z => ?_, fun z => ?_⟩
    · rw [h 18 (by decide) (by decide)]; exact Nd_of h D _ _ (h1 z)
    · obtain ⟨a1, a2, a3⟩ := h2 z
      rw [h 18 (by decide) (by decide), h 20 (by decide) (by decide)]
      exact ⟨a1, a2, ndCh_of (fun n x y => ⟨y.1, Nd_of h D _ _ y.2⟩) (fun i => by rw [h 19 (by decide) (by decide)]) _ _ a3⟩
    · obtain ⟨a1, a2, a3⟩ := h3 z
      rw [h 18 (by decide) (by decide), h 20 (by decide) (by decide)]
      exact ⟨a1, a2, ndCh_of (fun n x y => ⟨by rw [h 21 (by decide) (by decide)]; exact y.1, by rw [h 24 (by decide) (by decide)]; exact y.2.1, Nd_of h D _ _ y.2.2⟩) (fun i => by rw [h 19 (by decide) (by decide)]) _ _ a3⟩
theorem Nd_tx {s s1 : mS} (F : txF s s1) {c : Int → Int} {D : Nat} {n t : Int} (h : Nd s.2.2.1 c D n t) : Nd s1.2.2.1 c D n t := Nd_of (fun k h1 h2 => txF_17 F h1 h2) D n t h
theorem Nd_lf {A : Nat → Nat → Int} {c : Int → Int} : ∀ {D : Nat} {n t : Int}, Nd A c D n t → lfN A c n t
  | 0, _, _, h => h.1
  | _ + 1, _, _, h => h.1
/-- reading a value of the type at t, of level D, does what the text says -/
def simE (m : Nat) (h : ax_Hp) (c v : Int → Int) (val : Bool) (D : Nat) (run : Nat → Int → Int → mS → ax_O) (ok : Int → Prop) : Prop := ∀ (s : mS) (d q n t : Int), ok t → tcx c v val s d q → s.1 7 + 40 * (200 - q) + 2 * D ≤ 500000000 → d + D ≤ 8 → Nd s.2.2.1 c D n t → elh s (spA c v val D t q) →
  (0 ≤ spVal c v val D t q → ∃ (k : Nat) (s' : mS), (k : Int) ≤ 2 * (spVal c v val D t q - q) ∧ (∀ fuel, run (fuel + k) n q s = rt m h fuel (spVal c v val D t q) s') ∧ txD s s' d (spO (s.1 39) c v val D t q) (spA c v val D t q) ∧ 2 * ((spA c v val D t q).length : Int) ≤ spVal c v val D t q - q ∧ ((spO (s.1 39) c v val D t q).length : Int) ≤ (16 + 2 * D) * (spVal c v val D t q - q)) ∧
  (spVal c v val D t q < 0 → ∃ (k : Nat) (s' : mS), (k : Int) ≤ 2 * (170 - q) ∧ (∀ fuel, run (fuel + k) n q s = some (.inl (some (ax_I (Int32.ofInt (spVal c v val D t q)))), mH h s')) ∧ txG s s')
theorem spLo_len {sp : Int} {c v : Int → Int} {t q : Int} (h : q < spLf c v t q) : ((spLo sp c v t q).length : Int) ≤ 16 * (spLf c v t q - q) := by
  have lz := spZb_len 9 (spZz (spNum v (decide (c t = 76)) q).2)
  have lc := spCh_len v (spLf c v t q - q - 2).toNat (q + 1)
  have lc2 := spCh_len v (spLf c v t q - q).toNat q
  unfold spLo
  split
  · split
    · simp; omega
    · split
      · omega
      · split
        · simp; omega
        · split
          · rw [List.length_cons, lc]; omega
          · simp; omega
  · split
    · rw [lc2]; omega
    · simp; omega
theorem spVal_lf {c v : Int → Int} {val : Bool} {D : Nat} {t q : Int} (h : c t ≠ 65 ∧ c t ≠ 85 ∧ c t ≠ 82) : spVal c v val D t q = spLf c v t q := by
  cases D with
  | zero => rfl
  | succ D => show spV1 _ _ _ _ _ _ _ = _; unfold spV1; rw [if_neg h.1, if_neg h.2.1, if_neg h.2.2]
theorem spO_lf {sp : Int} {c v : Int → Int} {val : Bool} {D : Nat} {t q : Int} (h : c t ≠ 65 ∧ c t ≠ 85 ∧ c t ≠ 82) : spO sp c v val D t q = spLo sp c v t q := by
  cases D with
  | zero => rfl
  | succ D => show spO1 _ _ _ _ _ _ _ _ _ = _; unfold spO1; rw [if_neg h.1, if_neg h.2.1, if_neg h.2.2]
theorem spA_lf {c v : Int → Int} {val : Bool} {D : Nat} {t q : Int} (h : c t ≠ 65 ∧ c t ≠ 85 ∧ c t ≠ 82) : spA c v val D t q = [] := by
  cases D with
  | zero => rfl
  | succ D => show spA1 _ _ _ _ _ _ _ _ = _; unfold spA1; rw [if_neg h.1, if_neg h.2.1, if_neg h.2.2]
/-- a leaf -/
theorem sim_leaf {m : Nat} {h : ax_Hp} {c v : Int → Int} {val : Bool} (hv : ∀ p, 160 ≤ p → v p = 0) (D : Nat) : simE m h c v val D (rj m h) (fun t => c t ≠ 65 ∧ c t ≠ 85 ∧ c t ≠ 82) := by
  intro s d q n t ok X hB hD N hel
  have X' := X
  obtain ⟨x1, x2, x3, x4, x5, x6, x7, x8, x9, x10⟩ := X
  have L := Nd_lf N
  have L' := L
  obtain ⟨l1, l2, l3, l4, l5⟩ := L
  have bt := x1.2.2.2.2 t
  rw [spVal_lf ok, spO_lf ok, spA_lf ok]
  have B := spLf_b (c := c) hv t q x10.1 x10.2
  unfold bd at B
  obtain ⟨s', e, f, g, g7⟩ := Model_readPlain_z (m := m + 1) (h := h) (s := mI s 38 1) (c := c) (v := v) (n := n) (t := t) (q := q) x1 (isV_of x3 rfl rfl rfl rfl rfl rfl) x2 L' x10.1 x10.2 hv x9.1 (by show s.1 7 < _; omega) x5
  have run : ∀ fuel, rj m h fuel n q s = rt m h fuel (spLf c v t q) s' := by
    intro fuel
    unfold rj Model_enter_jn142
    simp (disch := omega) only [mpf_38, ↓mgr_17, mld_17, mS_on, Option.bind_some, ↓zi_lit, mI_2, zi_eq, ↓reduceIte, l4, ok.1, ok.2.2]
    rw [pl_ci e]
    rfl
  have F : txF s s' := ⟨fun x j1 j2 j3 j4 => (f.1 x j1).trans (if_neg j3), fun x j1 _ _ _ _ _ => f.2.1 x j1, f.2.2⟩
  refine ⟨fun z => ⟨0, s', by omega, run, ⟨F, (f.1 31 (by decide)).trans x6, (f.1 38 (by decide)).trans rfl, fun x hx i _ => congrFun (f.2.1 x (by omega)) i, g z, els_0 (f.1 40 (by decide)) (f.2.1 41 (by decide))⟩, ?_, ?_⟩, fun z => ⟨1, s', by omega, fun fuel => (run (fuel + 1)).trans (rt_neg z (by omega)), F, fun _ => (g7 z).trans rfl⟩⟩
  · show 2 * ((0 : Nat) : Int) ≤ _
    omega
  · have := spLo_len (sp := s.1 39) (c := c) (v := v) (t := t) (q := q) (by omega)
    have h2 : (16 : Int) * (spLf c v t q - q) ≤ (16 + 2 * (D : Int)) * (spLf c v t q - q) := Int.mul_le_mul_of_nonneg_right (by omega) (by omega)
    omega
theorem spElO_z {v f : Int → Int} {g : Int → List Int} (hg : ∀ q, g q = []) : ∀ (k : Nat) (q : Int), spElO 0 v f g k q = []
  | 0, _ => rfl
  | k + 1, q => by
    show g q ++ (if v (f q) = 93 then [] else (if (0 : Int) = 2 then [44] else []) ++ spElO 0 v f g k (f q + 1)) = []
    rw [hg, if_neg (show ¬ (0 : Int) = 2 by decide), spElO_z hg k]
    split <;> rfl
theorem spFsO_z {f : Int → Int → Int} {g : Int → Int → List Int} (hg : ∀ t q, g t q = []) : ∀ (l : List Int) (q : Int), spFsO 0 f g l q = []
  | [], _ => rfl
  | [x], q => hg _ _
  | x :: y :: l, q => by
    show g (x + 2) q ++ ((if (0 : Int) = 2 then [44] else []) ++ spFsO 0 f g (y :: l) (f (x + 2) q + 1)) = []
    rw [hg, if_neg (by decide), spFsO_z hg (y :: l)]
    rfl
theorem spO_z {c v : Int → Int} {val : Bool} : ∀ (D : Nat) (t q : Int), spO 0 c v val D t q = []
  | 0, t, q => by
    show spLo 0 c v t q = []
    unfold spLo
    rw [if_neg (by decide), if_neg (by decide)]
  | D + 1, t, q => by
    show spO1 0 c v val (spPt c (D + 1)) (spVal c v val D) (spO 0 c v val D) t q = []
    unfold spO1
    split
    · split
      · rfl
      · rw [if_neg (by decide), if_neg (by decide), if_neg (by decide), if_neg (by decide), spElO_z (spO_z D (t + 1))]; rfl
    · split
      · split
        · rw [if_neg (by decide), if_neg (by decide), spO_z D]; rfl
        · rw [if_neg (by decide), spO_z D]; rfl
      · split
        · rw [if_neg (by decide), if_neg (by decide), spFsO_z (spO_z D)]; rfl
        · unfold spLo
          rw [if_neg (by decide), if_neg (by decide)]
theorem sd0 {s s1 : mS} {c v : Int → Int} {val : Bool} {D : Nat} {t q : Int} (h : said s s1 (spO (s.1 39) c v val D t q)) (z : s.1 39 = 0) : s1.1 7 = s.1 7 := by
  have := said_1 h
  rw [z, spO_z, List.length_nil] at this
  omega
