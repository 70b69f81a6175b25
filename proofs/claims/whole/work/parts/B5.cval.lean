/-- what was added to the bytes: nothing where there is no room at all (literals) -/
def bsE (K : Nat → Nat) (s s' : cS) (L : List Int) : Prop := (K 9 = 0 → s'.2.2.2.2 = s.2.2.2.2) ∧ (K 9 ≠ 0 → s'.2.2.2.2.1 = s.2.2.2.2.1 + L.length ∧ (∀ i : Nat, (i : Int) < s.2.2.2.2.1 → s'.2.2.2.2.2 i = s.2.2.2.2.2 i) ∧ ∀ j : Nat, j < L.length → s'.2.2.2.2.2 (s.2.2.2.2.1 + j).toNat = L.getD j 0)
theorem bsE_0 {K : Nat → Nat} {s s' : cS} (h : s'.2.2.2.2 = s.2.2.2.2) : bsE K s s' [] := ⟨fun _ => h, fun _ => ⟨by rw [h]; show _ = _ + ((0 : Nat) : Int); omega, fun i _ => by rw [h], fun j hj => absurd hj (Nat.not_lt_zero _)⟩⟩
theorem bsE.trans {K : Nat → Nat} {s s1 s2 : cS} {l k : List Int} (z0 : 0 ≤ s.2.2.2.2.1) (h : bsE K s s1 l) (h1 : bsE K s1 s2 k) : bsE K s s2 (l ++ k) := by
  refine ⟨fun z => (h1.1 z).trans (h.1 z), fun z => ?_⟩
  obtain ⟨a1, a2, a3⟩ := h.2 z
  obtain ⟨b1, b2, b3⟩ := h1.2 z
  refine ⟨by rw [b1, a1, List.length_append]; omega, fun i hi => (b2 i (by omega)).trans (a2 i hi), fun j hj => ?_⟩
  rw [List.length_append] at hj
  by_cases c : j < l.length
  · rw [b2 (s.2.2.2.2.1 + j).toNat (by omega), a3 j c, List.getD_eq_getElem?_getD, List.getD_eq_getElem?_getD, List.getElem?_append_left c]
  · have := b3 (j - l.length) (by omega)
    rw [show (s1.2.2.2.2.1 + ((j - l.length : Nat) : Int)).toNat = (s.2.2.2.2.1 + j).toNat by omega] at this
    rw [this, List.getD_eq_getElem?_getD, List.getD_eq_getElem?_getD, List.getElem?_append_right (by omega)]
/-- all but the bytes is as it was -/
def mkE (s s' : cS) : Prop := s'.2.1 = s.2.1 ∧ s'.2.2.1 = s.2.2.1 ∧ s'.2.2.2.1 = s.2.2.2.1
theorem mkE_refl (s : cS) : mkE s s := ⟨rfl, rfl, rfl⟩
theorem mkE.trans {s s1 s2 : cS} (h : mkE s s1) (h1 : mkE s1 s2) : mkE s s2 := ⟨h1.1.trans h.1, h1.2.1.trans h.2.1, h1.2.2.trans h.2.2⟩
/-- room for n more bytes -/
def bRm (K : Nat → Nat) (s : cS) (n : Int) : Prop := 0 ≤ s.2.2.2.2.1 ∧ (K 9 = 0 → s.2.2.2.2.1 = 0) ∧ (K 9 ≠ 0 → s.2.2.2.2.1 + n ≤ K 9)
theorem bsE_rm {K : Nat → Nat} {s s' : cS} {L : List Int} {n : Int} (h : bsE K s s' L) (r : bRm K s n) : bRm K s' (n - L.length) := by
  obtain ⟨r1, r2, r3⟩ := r
  by_cases z : K 9 = 0
  · have := h.1 z
    exact ⟨by rw [this]; exact r1, fun _ => by rw [this]; exact r2 z, fun w => absurd z w⟩
  · have := (h.2 z).1
    have := r3 z
    exact ⟨by omega, fun w => absurd w z, fun _ => by omega⟩
theorem Ro_addE {m : Nat} {g : ax_Hp} {K : Nat → Nat} {s : cS} {x : Int} (h : kOk K) (r : bRm K s 1) : ∃ (s' : cS) (b : Int), ax_F (m + 1) 8 [ax_A (some (K 4)), ax_I (Int32.ofInt x)] (cH g K s) = some (.inl (some (ax_I (Int32.ofInt b))), cH g K s') ∧ s'.1 = s.1 ∧ mkE s s' ∧ bsE K s s' [x] := by
  have k9 := h.2.2.2
  obtain ⟨r1, r2, r3⟩ := r
  by_cases z : K 9 = 0
  · have z0 := r2 z
    refine ⟨s, 0, ?_, rfl, mkE_refl s, fun _ => rfl, fun w => absurd z w⟩
    rw [Ro_add h r1 (by omega), if_neg (by omega), if_neg (by omega)]
  · have := r3 z
    refine ⟨cSz (cBy s s.2.2.2.2.1 x) (s.2.2.2.2.1 + 1), 1, ?_, rfl, ⟨rfl, rfl, rfl⟩, fun w => absurd w z, fun _ => ⟨rfl, fun i hi => ?_, fun j hj => ?_⟩⟩
    · rw [Ro_add h r1 (by omega), if_pos (by omega), if_pos (by omega)]
    · show (if i = s.2.2.2.2.1.toNat then x else _) = _
      rw [if_neg (by omega)]
    · rw [List.length_singleton] at hj
      show (if (s.2.2.2.2.1 + (j : Int)).toNat = s.2.2.2.2.1.toNat then x else _) = _
      rw [if_pos (by omega), show j = 0 by omega]
      rfl
/-- a reader of values at vr; lit: of literals -/
def vrX (g : ax_Hp) (K : Nat → Nat) (vr sc : Nat) (val : Bool) : Prop := g.2.2 vr = some (.inl (7, [ax_A (some (K 0)), ax_A (some sc), ax_A (some (K 4)), ax_I (Int32.ofInt (if val then 0 else 1))])) ∧ ∀ i, i < 6 → vr ≠ K i
theorem vr_gr0 {g : ax_Hp} {K : Nat → Nat} {vr sc : Nat} {val : Bool} {s : cS} (X : vrX g K vr sc val) : ax_gr (cH g K s) (some vr) 7 0 = some (some (K 0)) := pl_gr ((cH_o X.2).trans X.1) rfl
theorem vr_gr1 {g : ax_Hp} {K : Nat → Nat} {vr sc : Nat} {val : Bool} {s : cS} (X : vrX g K vr sc val) : ax_gr (cH g K s) (some vr) 7 1 = some (some sc) := pl_gr ((cH_o X.2).trans X.1) rfl
theorem vr_gr2 {g : ax_Hp} {K : Nat → Nat} {vr sc : Nat} {val : Bool} {s : cS} (X : vrX g K vr sc val) : ax_gr (cH g K s) (some vr) 7 2 = some (some (K 4)) := pl_gr ((cH_o X.2).trans X.1) rfl
theorem vr_gi3 {g : ax_Hp} {K : Nat → Nat} {vr sc : Nat} {val : Bool} {s : cS} (X : vrX g K vr sc val) : ax_gi (cH g K s) (some vr) 7 3 = some (Int32.ofInt (if val then 0 else 1)) := pl_gi ((cH_o X.2).trans X.1) rfl
theorem vr_on {g : ax_Hp} {K : Nat → Nat} {vr sc : Nat} {val : Bool} {s : cS} (X : vrX g K vr sc val) (k : ax_O) : ax_on (cH g K s) (some vr) 7 k = k := pl_on ((cH_o X.2).trans X.1)
theorem cu_on {g : ax_Hp} {K : Nat → Nat} {s : cS} (k : ax_O) : ax_on (cH g K s) (some (K 0)) 0 k = k := pl_on (cH_k0 g K s)
theorem ro_on {g : ax_Hp} {K : Nat → Nat} {s : cS} (h : kOk K) (k : ax_O) : ax_on (cH g K s) (some (K 4)) 2 k = k := pl_on (cH_k4 g h s)
theorem sc_on {g : ax_Hp} {K : Nat → Nat} {sc tr ti l : Nat} {c : Int → Int} {s : cS} (S : csX g K sc tr ti l c) (k : ax_O) : ax_on (cH g K s) (some sc) 3 k = k := pl_on ((cH_o S.2.1).trans S.1)
/-- read at q: the answer e, the cursor behind it or at the fault -/
def vEnd (s' : cS) (e : Int) : Prop := s'.1 = if 0 ≤ e then e else -1 - e
theorem Vr_bool {m : Nat} {g : ax_Hp} {K : Nat → Nat} {vr sc : Nat} {val : Bool} {v : Int → Int} {s : cS} {q : Int} (h : kOk K) (X : vrX g K vr sc val) (V : cvX g K v) (hq : s.1 = q) (q0 : 0 ≤ q) (q1 : q ≤ 160) (r : bRm K s 1) : ∃ s', ax_F (m + 2) 46 [ax_A (some vr)] (cH g K s) = some (.inl (some (ax_I (Int32.ofInt (if v q = 84 ∨ v q = 70 then 1 else 0)))), cH g K s') ∧ s'.1 = (if v q = 84 ∨ v q = 70 then q + 1 else q) ∧ mkE s s' ∧ (v q = 84 ∨ v q = 70 → bsE K s s' [if v q = 84 then 1 else 0]) := by
  subst hq
  rw [ValueReader_readBoolean_F]
  unfold ValueReader_readBoolean_b
  rw [vr_gr0 X, Option.bind_some, cu_on, show (84 : Int32) = Int32.ofInt 84 from rfl, pl_ci (Cu_take h V q0 (by omega) (by decide) (by decide))]
  by_cases c1 : v s.1 = 84
  · simp only [if_pos c1]
    rw [if_neg (show ¬ Int32.ofInt 1 = 0 from by decide), vr_gr2 X, Option.bind_some, if_neg (show ¬ Int32.ofInt 1 = 0 from by decide), ro_on h]
    obtain ⟨s', b, e, e1, e2, e3⟩ := Ro_addE (m := m) (g := g) (s := cAt s (s.1 + 1)) (x := 1) h r
    refine ⟨s', ?_, ?_, e2, fun _ => e3⟩
    · rw [show (1 : Int32) = Int32.ofInt 1 from rfl, pl_ci e, if_pos (Or.inl c1)]
      exact za_rz (Or.inr rfl)
    · rw [e1, if_pos (Or.inl c1)]; rfl
  · simp only [if_neg c1]
    rw [if_pos (show Int32.ofInt 0 = 0 from rfl), vr_gr0 X, Option.bind_some, cu_on, show (70 : Int32) = Int32.ofInt 70 from rfl, pl_ci (Cu_take h V q0 (by omega) (by decide) (by decide))]
    by_cases c2 : v s.1 = 70
    · simp only [if_pos c2]
      rw [if_neg (show ¬ Int32.ofInt 1 = 0 from by decide), vr_gr2 X, Option.bind_some, if_pos (show Int32.ofInt 0 = 0 from rfl), ro_on h]
      obtain ⟨s', b, e, e1, e2, e3⟩ := Ro_addE (m := m) (g := g) (s := cAt s (s.1 + 1)) (x := 0) h r
      refine ⟨s', ?_, ?_, e2, fun _ => e3⟩
      · rw [zi_0, pl_ci e, if_pos (Or.inr c2)]
        exact za_rz (Or.inr rfl)
      · rw [e1, if_pos (Or.inr c2)]; rfl
    · simp only [if_neg c2]
      have n : ¬ (v s.1 = 84 ∨ v s.1 = 70) := by omega
      refine ⟨s, ?_, by rw [if_neg n], mkE_refl s, fun z => absurd z n⟩
      rw [if_pos (show Int32.ofInt 0 = 0 from rfl), if_neg n]
      exact za_rz (v := 0) (Or.inl rfl)
