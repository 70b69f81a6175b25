/-- what resolving may change in the reference -/
def rvF (s s' : mS) : Prop := (∀ k, k ≠ 7 → k ≠ 29 → k ≠ 30 → k ≠ 31 → k ≠ 38 → k ≠ 39 → k ≠ 40 → k ≠ 48 → k ≠ 49 → s'.1 k = s.1 k) ∧ (∀ k, k ≠ 8 → (k < 32 ∨ 36 < k) → k ≠ 41 → (k < 43 ∨ 47 < k) → s'.2.2.1 k = s.2.2.1 k) ∧ s'.2.2.2 = s.2.2.2
theorem rvF_refl (s : mS) : rvF s s := ⟨fun _ _ _ _ _ _ _ _ _ _ => rfl, fun _ _ _ _ _ => rfl, rfl⟩
theorem rvF.trans {s s1 s2 : mS} (h : rvF s s1) (h1 : rvF s1 s2) : rvF s s2 := ⟨fun k a b c d e f g i j => (h1.1 k a b c d e f g i j).trans (h.1 k a b c d e f g i j), fun k a b c d => (h1.2.1 k a b c d).trans (h.2.1 k a b c d), h1.2.2.trans h.2.2⟩
theorem syF.rv {s s' : mS} (h : syF s s') : rvF s s' := ⟨fun k a _ _ _ _ _ _ _ _ => h.1 k a, fun k a _ _ _ => h.2.1 k a, h.2.2⟩
theorem scF.rv {s s' : mS} (h : scF s s') : rvF s s' := ⟨fun k _ _ _ a b _ _ _ _ => h.1 k a b, fun k _ a _ _ => h.2.1 k (by omega) (by omega) (by omega) (by omega), h.2.2⟩
theorem txF.rv {s s' : mS} (h : txF s s') : rvF s s' := ⟨fun k a _ _ b c _ d _ _ => h.1 k a b c d, fun k a b c _ => h.2.1 k a (by omega) (by omega) (by omega) (by omega) c, h.2.2⟩
theorem rvF_I {s : mS} {k : Nat} {v : Int} (hk : k = 7 ∨ k = 29 ∨ k = 30 ∨ k = 31 ∨ k = 38 ∨ k = 39 ∨ k = 40 ∨ k = 48 ∨ k = 49) : rvF s (mI s k v) := ⟨fun j a b c d e f g i l => by rw [mI_1, if_neg (by omega)], fun _ _ _ _ _ => rfl, rfl⟩
theorem rvF_L (s : mS) (v : Int) : rvF s (mL s v) := ⟨fun _ _ _ _ _ _ _ _ _ _ => rfl, fun _ _ _ _ _ => rfl, rfl⟩
theorem rvF_U {s : mS} {k : Nat} {i v : Int} (hk : 43 ≤ k ∧ k ≤ 47) : rvF s (mU s k i v) := ⟨fun _ _ _ _ _ _ _ _ _ _ => rfl, fun j a b c d => mU_ne _ _ _ _ _ (by omega), rfl⟩
theorem rvF_17 {s s' : mS} (h : rvF s s') {k : Nat} (h1 : 9 ≤ k) (h2 : k ≤ 25) : s'.2.2.1 k = s.2.2.1 k := h.2.1 k (by omega) (by omega) (by omega) (by omega)
theorem rvF_S {s s' : mS} {N : Nat} {b : Int → Int} (h : rvF s s') (S : isS s N b) : isS s' N b := by
  unfold isS at *
  rw [h.1 3 (by decide) (by decide) (by decide) (by decide) (by decide) (by decide) (by decide) (by decide) (by decide), h.2.1 4 (by decide) (by decide) (by decide) (by decide)]
  exact S
theorem rvF_T {s s' : mS} {t : Int} {c : Int → Int} (h : rvF s s') (T : isT s t c) : isT s' t c := isT_of T (rvF_17 h (by decide) (by decide)) (rvF_17 h (by decide) (by decide))
theorem gN_of {A A' : Nat → Nat → Int} {c : Int → Int} {hi : Int} {D : Nat} {n t : Int} (h : ∀ k, 9 ≤ k → k ≤ 25 → A' k = A k) (g : gN A c hi D n t) : gN A' c hi D n t := ⟨NdS_fr D n t (fun k hk i _ _ => by rw [h k (by omega) (by omega)]) (fun k hk i _ _ => by rw [h k (by omega) (by omega)]) g.1, g.2⟩
theorem gN_Nd {A : Nat → Nat → Int} {c : Int → Int} {hi : Int} {D : Nat} {n t : Int} (hh : hi ≤ 240) (g : gN A c hi D n t) : Nd A c D n t := NdS_Nd D n t (by have := g.2.1; omega) g.1
/-- the frames below L are as they were -/
def rvK (L : Int) (s s' : mS) : Prop := ∀ k, 43 ≤ k → k ≤ 47 → ∀ i : Nat, (i : Int) < L → s'.2.2.1 k i = s.2.2.1 k i
theorem rvK_refl (L : Int) (s : mS) : rvK L s s := fun _ _ _ _ _ => rfl
theorem rvK.trans {L : Int} {s s1 s2 : mS} (h : rvK L s s1) (h1 : rvK L s1 s2) : rvK L s s2 := fun k a b i hi => (h1 k a b i hi).trans (h k a b i hi)
theorem rvK_le {L L' : Int} {s s' : mS} (h : rvK L' s s') (hl : L ≤ L') : rvK L s s' := fun k a b i hi => h k a b i (by omega)
theorem rvK_of {L : Int} {s s' : mS} (h : ∀ k, 43 ≤ k → k ≤ 47 → s'.2.2.1 k = s.2.2.1 k) : rvK L s s' := fun k a b i _ => by rw [h k a b]
theorem syF.rk {s s' : mS} (h : syF s s') (L : Int) : rvK L s s' := rvK_of (fun k a b => h.2.1 k (by omega))
theorem scF.rk {s s' : mS} (h : scF s s') (L : Int) : rvK L s s' := rvK_of (fun k a b => h.2.1 k (by omega) (by omega) (by omega) (by omega))
theorem txF.rk {s s' : mS} (h : txF s s') (L : Int) : rvK L s s' := rvK_of (fun k a b => h.2.1 k (by omega) (by omega) (by omega) (by omega) (by omega) (by omega))
theorem rvK_U {L i v : Int} {s : mS} {k : Nat} (hi : L ≤ i) : rvK L s (mU s k i v) := fun j a b x hx => by rw [mU_3, if_neg (by omega)]
/-- what the reference's resolving rests on -/
def rcx (s : mS) (N : Nat) (b c d : Int → Int) (N0 N1 : Int) : Prop := isS s N b ∧ isT s 0 c ∧ isT s 1 d ∧ N0 ≤ 120 ∧ N1 ≤ 120 ∧ ∀ r k, 0 ≤ r → r < N0 → 0 ≤ k → k < N1 → fitK s.2.2.1 c d N0 N1 s.2.2.2 r k
theorem rcx_of {s s' : mS} {N : Nat} {b c d : Int → Int} {N0 N1 : Int} (h : rvF s s') (R : rcx s N b c d N0 N1) : rcx s' N b c d N0 N1 := by
  obtain ⟨r1, r2, r3, r4, r5, r6⟩ := R
  refine ⟨rvF_S h r1, rvF_T h r2, rvF_T h r3, r4, r5, fun r k a1 a2 a3 a4 D1 t D2 u n g1 g2 hn => ?_⟩
  rw [h.2.2]
  exact r6 r k a1 a2 a3 a4 D1 t D2 u n (gN_of (fun j x y => (rvF_17 h x y).symm) g1) (gN_of (fun j x y => (rvF_17 h x y).symm) g2) hn
/-- there is room for what is said -/
def okN (o : Option (List Int)) (x : Int) : Bool := match o with
  | none => false
  | some k => decide (x + k.length ≤ 400)
theorem okN_L {o : Option (List Int)} {L : List Int} : okN o L.length = okL o L := by
  cases o with
  | none => rfl
  | some k =>
    show decide ((L.length : Int) + k.length ≤ 400) = decide (L.length + k.length ≤ 400)
    by_cases q : L.length + k.length ≤ 400
    · rw [decide_eq_true q, decide_eq_true (by omega)]
    · rw [decide_eq_false q, decide_eq_false (by omega)]
theorem okN_c {k : List Int} {o : Option (List Int)} {x y : Int} (h : y = x + k.length) : okN (cat2 (some k) o) x = okN o y := by
  cases o with
  | none => rfl
  | some z =>
    show decide (x + ((k ++ z).length : Nat) ≤ 400) = decide (y + z.length ≤ 400)
    rw [List.length_append, show x + ((k.length + z.length : Nat) : Int) = y + z.length by omega]
theorem okN_cf {a o : Option (List Int)} {x : Int} (h : okN a x = false) : okN (cat2 a o) x = false := by
  cases a with
  | none => rfl
  | some k =>
    have h1 := of_decide_eq_false (show decide (x + k.length ≤ 400) = false from h)
    cases o with
    | none => rfl
    | some z => exact decide_eq_false (by show ¬ x + ((k ++ z).length : Nat) ≤ 400; rw [List.length_append]; omega)
/-- the loop of resolve -/
def lpR (m : Nat) (h : ax_Hp) (fuel : Nat) (s : mS) : ax_O := Model_resolve_lp23 (ax_F (m + 8)) fuel (some 24) (mH h s)
theorem lpR_s (m : Nat) (h : ax_Hp) (fuel : Nat) (s : mS) : lpR m h (fuel + 1) s = Model_resolve_bd23 (ax_F (m + 8)) (Model_resolve_lp23 (ax_F (m + 8)) fuel) (some 24) (mH h s) := rfl
/-- from the state s on, `run` says o, or the loop ends -/
def rr (m : Nat) (h : ax_Hp) (L : Int) (run : Nat → ax_O) (s : mS) (o : Option (List Int)) (B : Nat) (P : mS → Prop) : Prop :=
  (okN o (s.1 7) = true → ∃ (K : Nat) (s' : mS) (k : List Int), o = some k ∧ K ≤ B ∧ (∀ fuel, run (fuel + K) = lpR m h fuel s') ∧ rvF s s' ∧ rvK L s s' ∧ s'.1 49 = 0 ∧ said s s' k ∧ P s') ∧
  (okN o (s.1 7) = false → ∃ (K : Nat) (s' : mS), K ≤ B ∧ (∀ fuel, run (fuel + K) = some (.inl (some (ax_I 0)), mH h s')) ∧ rvF s s' ∧ 0 ≤ s'.1 7 ∧ s'.1 7 ≤ 2000)
section RR
variable {m : Nat} {h : ax_Hp} {L L' : Int} {run run1 : Nat → ax_O} {s s1 : mS} {o o1 o2 : Option (List Int)} {B B1 : Nat} {P P1 : mS → Prop} {k : List Int}
theorem lp_fails {fuel : Nat} (h49 : s.1 49 = 1) : lpR m h (fuel + 1) s = some (.inl (some (ax_I 0)), mH h s) := by
  have j82 : Model_resolve_jn82 (ax_F (m + 8)) (some 24) (mH h s) = some (.inl (some (ax_I 0)), mH h s) := by
    unfold Model_resolve_jn82
    rw [mgi_49, Option.bind_some, h49, if_neg (show ¬ Int32.ofInt 1 = 0 from by decide)]
    exact pl_rz0
  rw [lpR_s]
  unfold Model_resolve_bd23
  rw [mgi_48, Option.bind_some, mgi_49, Option.bind_some, h49, if_neg (show ¬ Int32.ofInt 1 = 0 from by decide), j82]
  by_cases c : Int32.ofInt (s.1 48) ≤ 0
  · rw [if_pos c]
  · rw [if_neg c]
theorem lp_full {fuel : Nat} (h49 : s.1 49 = 0) (h7 : 400 < s.1 7) (h71 : s.1 7 ≤ 1000000) : lpR m h (fuel + 1) s = some (.inl (some (ax_I 0)), mH h s) := by
  have c7 : (400 : Int32) < Int32.ofInt (s.1 7) := by rw [show (400 : Int32) = Int32.ofInt 400 from rfl, zi_lt (by omega) (by omega) (by omega) (by omega)]; exact h7
  have j82 : Model_resolve_jn82 (ax_F (m + 8)) (some 24) (mH h s) = some (.inl (some (ax_I 0)), mH h s) := by
    unfold Model_resolve_jn82
    rw [mgi_49, Option.bind_some, h49, if_pos (show Int32.ofInt 0 = 0 from rfl), mgi_7, Option.bind_some, if_pos c7]
    exact pl_rz0
  rw [lpR_s]
  unfold Model_resolve_bd23
  rw [mgi_48, Option.bind_some, mgi_49, Option.bind_some, h49, if_pos (show Int32.ofInt 0 = 0 from rfl), mgi_7, Option.bind_some, if_pos c7, j82]
  by_cases c : Int32.ofInt (s.1 48) ≤ 0
  · rw [if_pos c]
  · rw [if_neg c]
theorem lp_step {fuel : Nat} {wn x : Int} (h48 : s.1 48 = L + 1) (l0 : 0 ≤ L) (l1 : L < 10) (h49 : s.1 49 = 0) (h7 : s.1 7 ≤ 400) (h70 : 0 ≤ s.1 7) (hw : s.2.2.1 44 L.toNat = wn) (w0 : 0 ≤ wn) (w1 : wn < 240) (hk : s.2.2.1 17 wn.toNat = x) (x0 : 0 ≤ x) (x1 : x < 128) : lpR m h (fuel + 1) s = ax_cv (ax_F (m + 8) (if x = 65 then 206 else 207) [ax_A (some 24)] (mH h s)) (fun g => Model_resolve_lp23 (ax_F (m + 8)) fuel (some 24) g) := by
  rw [lpR_s]
  unfold Model_resolve_bd23
  rw [mgi_48, Option.bind_some, h48, if_neg (show ¬ Int32.ofInt (L + 1) ≤ 0 from by rw [zi_0, zi_le (by omega) (by omega) (by omega) (by omega)]; omega), mgi_49, Option.bind_some, h49, if_pos (show Int32.ofInt 0 = 0 from rfl), mgi_7, Option.bind_some, if_neg (show ¬ (400 : Int32) < Int32.ofInt (s.1 7) from by rw [show (400 : Int32) = Int32.ofInt 400 from rfl, zi_lt (by omega) (by omega) (by omega) (by omega)]; omega), mgr_17, Option.bind_some, mgr_44, Option.bind_some, Option.bind_some, show (1 : Int32) = Int32.ofInt 1 from rfl, zi_sub, show L + 1 - 1 = L by omega, mld_44 _ _ _ l0 l1, Option.bind_some, hw, mld_17 _ _ _ w0 w1, Option.bind_some, hk, mS_on, mS_on]
  by_cases c : x = 65
  · rw [if_pos c, if_pos (show Int32.ofInt x = 65 from by rw [c]; rfl)]
  · rw [if_neg c, if_neg (show ¬ Int32.ofInt x = 65 from by rw [show (65 : Int32) = Int32.ofInt 65 from rfl, zi_eq (by omega) (by omega) (by omega) (by omega)]; exact c)]
theorem rr_B (H : rr m h L run s o B P) (hB : B ≤ B1) : rr m h L run s o B1 P :=
  ⟨fun q => by obtain ⟨K, s', k, a1, a2, a3⟩ := H.1 q; exact ⟨K, s', k, a1, by omega, a3⟩, fun q => by obtain ⟨K, s', a1, a2⟩ := H.2 q; exact ⟨K, s', by omega, a2⟩⟩
theorem rr_P (H : rr m h L run s o B P) (hP : ∀ x, P x → P1 x) : rr m h L run s o B P1 :=
  ⟨fun q => by obtain ⟨K, s', k, a1, a2, a3, a4, a5, a6, a7, a8⟩ := H.1 q; exact ⟨K, s', k, a1, a2, a3, a4, a5, a6, a7, hP _ a8⟩, H.2⟩
theorem rr_L (H : rr m h L' run s o B P) (hL : L ≤ L') : rr m h L run s o B P :=
  ⟨fun q => by obtain ⟨K, s', k, a1, a2, a3, a4, a5, a6⟩ := H.1 q; exact ⟨K, s', k, a1, a2, a3, a4, rvK_le a5 hL, a6⟩, H.2⟩
/-- some steps first -/
theorem rr_st (j : Nat) (H : rr m h L run1 s o B P) (hr : ∀ fuel, run (fuel + j) = run1 fuel) : rr m h L run s o (B + j) P :=
  ⟨fun q => by
    obtain ⟨K, s', k, a1, a2, a3, a4⟩ := H.1 q
    exact ⟨K + j, s', k, a1, by omega, fun fuel => by rw [← Nat.add_assoc, hr, a3], a4⟩, fun q => by
    obtain ⟨K, s', a1, a2, a3⟩ := H.2 q
    exact ⟨K + j, s', by omega, fun fuel => by rw [← Nat.add_assoc, hr, a2], a3⟩⟩
/-- k is said first -/
theorem rr_pre (H : rr m h L run s1 o B P) (F : rvF s s1) (K : rvK L s s1) (S : said s s1 k) : rr m h L run s (cat2 (some k) o) B P := by
  have l := said_1 S
  have e := okN_c (o := o) l
  refine ⟨fun q => ?_, fun q => ?_⟩
  · rw [e] at q
    obtain ⟨J, s', k', a1, a2, a3, a4, a5, a6, a7, a8⟩ := H.1 q
    exact ⟨J, s', k ++ k', by rw [a1]; rfl, a2, a3, F.trans a4, K.trans a5, a6, S.trans a7, a8⟩
  · rw [e] at q
    obtain ⟨J, s', a1, a2, a3, a4⟩ := H.2 q
    exact ⟨J, s', a1, a2, F.trans a3, a4⟩
theorem rr_sil (H : rr m h L run s1 o B P) (F : rvF s s1) (K : rvK L s s1) (h7 : s1.1 7 = s.1 7) (h8 : s1.2.2.1 8 = s.2.2.1 8) : rr m h L run s o B P := by
  have := rr_pre (k := []) H F K (said_0 h7 h8)
  rw [cat2_n] at this
  exact this
/-- one after the other -/
theorem rr_seq {L1 : Int} (H : rr m h L1 run s o1 B P1) (hL : L ≤ L1) (H2 : ∀ s1, rvF s s1 → rvK L1 s s1 → P1 s1 → s1.1 49 = 0 → s.1 7 ≤ s1.1 7 → s1.1 7 ≤ 400 → rr m h L (fun fuel => lpR m h fuel s1) s1 o2 B1 P) : rr m h L run s (cat2 o1 o2) (B + B1) P := by
  cases c1 : okN o1 (s.1 7) with
  | false =>
    obtain ⟨J, s', a1, a2, a3⟩ := H.2 c1
    refine ⟨fun q => ?_, fun _ => ⟨J, s', by omega, a2, a3⟩⟩
    rw [okN_cf c1] at q
    exact Bool.noConfusion q
  | true =>
    obtain ⟨J, s', k, a1, a2, a3, a4, a5, a6, a7, a8⟩ := H.1 c1
    have l := said_1 a7
    rw [a1] at c1
    have c2 := of_decide_eq_true (show decide (s.1 7 + k.length ≤ 400) = true from c1)
    have I := H2 s' a4 a5 a8 a6 (by omega) (by omega)
    rw [a1]
    have I2 := rr_pre I a4 (rvK_le a5 hL) a7
    have I3 := rr_st J I2 a3
    exact rr_B I3 (by omega)
/-- all is said -/
theorem rr_end (F : rvF s s1) (K : rvK L s s1) (h49 : s1.1 49 = 0) (S : said s s1 k) (h70 : 0 ≤ s1.1 7) (h7 : s1.1 7 ≤ 2000) (hP : P s1) : rr m h L (fun fuel => lpR m h fuel s1) s (some k) 1 P := by
  have l := said_1 S
  refine ⟨fun q => ⟨0, s1, k, rfl, by omega, fun _ => rfl, F, K, h49, S, hP⟩, fun q => ⟨1, s1, by omega, fun fuel => ?_, F, h70, h7⟩⟩
  have := of_decide_eq_false (show decide (s.1 7 + k.length ≤ 400) = false from q)
  exact lp_full h49 (by omega) (by omega)
/-- it can't be -/
theorem rr_no (F : rvF s s1) (h49 : s1.1 49 = 1) (h70 : 0 ≤ s1.1 7) (h7 : s1.1 7 ≤ 2000) : rr m h L (fun fuel => lpR m h fuel s1) s none 1 P :=
  ⟨fun q => Bool.noConfusion q, fun _ => ⟨1, s1, by omega, fun fuel => lp_fails h49, F, h70, h7⟩⟩
/-- too much is said already -/
theorem rr_many (h49 : s.1 49 = 0) (h7 : 400 < s.1 7) (h71 : s.1 7 ≤ 2000) : rr m h L (fun fuel => lpR m h fuel s) s o 1 P := by
  have e : okN o (s.1 7) = false := by
    cases o with
    | none => rfl
    | some k => exact decide_eq_false (by omega)
  refine ⟨fun q => ?_, fun _ => ⟨1, s, by omega, fun fuel => lp_full h49 h7 (by omega), rvF_refl s, by omega, h71⟩⟩
  rw [e] at q
  exact Bool.noConfusion q
end RR
