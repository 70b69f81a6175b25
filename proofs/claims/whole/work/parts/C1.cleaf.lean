theorem rz_b {e : Int} : (if 0 ≤ e then (1 : Int) else 0) = 0 ∨ (if 0 ≤ e then (1 : Int) else 0) = 1 := by split <;> omega
theorem bRm_le {K : Nat → Nat} {s : cS} {n k : Int} (h : bRm K s n) (hk : k ≤ n) : bRm K s k := ⟨h.1, h.2.1, fun w => by have := h.2.2 w; omega⟩
theorem Vr_leaf {m : Nat} {g : ax_Hp} {K : Nat → Nat} {vr sc tr ti l : Nat} {c v : Int → Int} {val : Bool} {s : cS} {t dep : Int} (h : kOk K) (X : vrX g K vr sc val) (V : cvX g K v) (S : csX g K sc tr ti l c) (d0 : 0 ≤ dep) (d1 : dep ≤ 6) (t0 : 0 ≤ t) (hc : isPl (c t) ∨ (c t = 69 ∧ 0 ≤ spE c t)) (q0 : 0 ≤ s.1) (q1 : s.1 ≤ K 7) (r : bRm K s (161 - s.1)) : ∃ s', ax_F (m + 5) 43 [ax_A (some vr), ax_I (Int32.ofInt t), ax_I (Int32.ofInt dep)] (cH g K s) = some (.inl (some (ax_I (Int32.ofInt (if 0 ≤ spLf c v t s.1 then 1 else 0)))), cH g K s') ∧ vPost K val s s' (spLf c v t s.1) (spLo 1 c v t s.1) [] := by
  have k7 := h.2.1
  have r1 : bRm K s 1 := bRm_le r (by omega)
  obtain ⟨l1, l2, l3, l4⟩ := S_lt S
  have mk : ∀ s' : cS, mkE s s' → enE val s' s ∧ s'.2.2.1 = s.2.2.1 ∧ unE s s' [] := fun s' M => ⟨enE_r M.1 M.2.2, M.2.1, unE_0 M.2.2⟩
  have hl1 : (1 : Int) = 1 := rfl
  rcases hc with (hN | hB | hI | hL | hS) | ⟨hE, hE2⟩
  · -- N
    have e := Cu_take (m := m + 3) (g := g) (s := s) (x := 78) h V q0 (by omega) (by decide) (by decide)
    have eL : spLf c v t s.1 = if v s.1 = 78 then s.1 + 1 else -1 - s.1 := by unfold spLf; rw [if_pos hN]
    have eO : spLo 1 c v t s.1 = [] := by unfold spLo; rw [if_pos hl1, if_neg (by omega), if_neg (by omega), if_neg (by omega), if_neg (by omega)]
    rw [eL, eO]
    by_cases d : v s.1 = 78
    · rw [if_pos d, if_pos d] at e
      rw [if_pos d, if_pos (show 0 ≤ s.1 + 1 by omega)]
      refine ⟨_, Vr_dN X S t0 d0 d1 (Or.inr rfl) hN e, ?_, enE_r rfl rfl, rfl, fun _ => ⟨bsE_0 rfl, unE_0 rfl, by show ((0 : Nat) : Int) ≤ _; omega⟩⟩
      unfold vEnd; rw [if_pos (show 0 ≤ s.1 + 1 by omega)]; rfl
    · rw [if_neg d, if_neg d] at e
      rw [if_neg d, if_neg (show ¬ 0 ≤ -1 - s.1 by omega)]
      refine ⟨_, Vr_dN X S t0 d0 d1 (Or.inl rfl) hN e, ?_, enE_r rfl rfl, rfl, fun z => absurd z (by omega)⟩
      unfold vEnd; rw [if_neg (show ¬ 0 ≤ -1 - s.1 by omega)]; omega
  · -- B
    obtain ⟨s', e1, e2, e3, e4⟩ := Vr_bool (m := m + 2) (g := g) (q := s.1) h X V rfl q0 (by omega) r1
    have eL : spLf c v t s.1 = if v s.1 = 84 ∨ v s.1 = 70 then s.1 + 1 else -1 - s.1 := by unfold spLf; rw [if_neg (by omega), if_pos hB]
    have eO : spLo 1 c v t s.1 = [if v s.1 = 84 then 1 else 0] := by unfold spLo; rw [if_pos hl1, if_pos hB]
    obtain ⟨m1, m2, m3⟩ := mk s' e3
    rw [eL, eO]
    by_cases d : v s.1 = 84 ∨ v s.1 = 70
    · rw [if_pos d] at e1 e2
      rw [if_pos d, if_pos (show 0 ≤ s.1 + 1 by omega)]
      refine ⟨_, Vr_dB X S t0 d0 d1 (Or.inr rfl) hB e1, ?_, m1, m2, fun _ => ⟨e4 d, m3, by show ((1 : Nat) : Int) ≤ _; omega⟩⟩
      unfold vEnd; rw [if_pos (show 0 ≤ s.1 + 1 by omega)]; exact e2
    · rw [if_neg d] at e1 e2
      rw [if_neg d, if_neg (show ¬ 0 ≤ -1 - s.1 by omega)]
      refine ⟨_, Vr_dB X S t0 d0 d1 (Or.inl rfl) hB e1, ?_, m1, m2, fun z => absurd z (by omega)⟩
      unfold vEnd; rw [if_neg (show ¬ 0 ≤ -1 - s.1 by omega)]; omega
  · -- I
    have eL : spLf c v t s.1 = (spNum v false s.1).1 := by unfold spLf; rw [if_neg (by omega), if_neg (by omega), if_neg (by omega), if_neg (by omega), decide_eq_false (by omega)]
    have eO : spLo 1 c v t s.1 = spZb 9 (spZz (spNum v false s.1).2) := by unfold spLo; rw [if_pos hl1, if_neg (by omega), if_pos (Or.inl hI), decide_eq_false (by omega)]
    have b := spNum_b (N := K 7) (V_lt V).1 false s.1 q0 q1
    unfold bd at b
    obtain ⟨s', e1, e2, e3, e4⟩ := Vr_num (m := m + 1) (g := g) (s := s) (w := false) h X V q0 (by omega) (fun z => bRm_le r (by have := (spNum_v q0 z).2.2; omega))
    obtain ⟨m1, m2, m3⟩ := mk s' e3
    rw [eL, eO]
    exact ⟨s', Vr_dI X S t0 d0 d1 rz_b hI e1, e2, m1, m2, fun z => ⟨e4 z, m3, (spNum_v q0 z).2.2⟩⟩
  · -- L
    have eL : spLf c v t s.1 = (spNum v true s.1).1 := by unfold spLf; rw [if_neg (by omega), if_neg (by omega), if_neg (by omega), if_neg (by omega), decide_eq_true hL]
    have eO : spLo 1 c v t s.1 = spZb 9 (spZz (spNum v true s.1).2) := by unfold spLo; rw [if_pos hl1, if_neg (by omega), if_pos (Or.inr hL), decide_eq_true hL]
    have b := spNum_b (N := K 7) (V_lt V).1 true s.1 q0 q1
    unfold bd at b
    obtain ⟨s', e1, e2, e3, e4⟩ := Vr_num (m := m + 1) (g := g) (s := s) (w := true) h X V q0 (by omega) (fun z => bRm_le r (by have := (spNum_v q0 z).2.2; omega))
    obtain ⟨m1, m2, m3⟩ := mk s' e3
    rw [eL, eO]
    exact ⟨s', Vr_dL X S t0 d0 d1 rz_b hL e1, e2, m1, m2, fun z => ⟨e4 z, m3, (spNum_v q0 z).2.2⟩⟩
  · -- S
    have eL : spLf c v t s.1 = if v s.1 = 34 then spStr v 12 (s.1 + 1) else -1 - s.1 := by unfold spLf; rw [if_neg (by omega), if_neg (by omega), if_neg (by omega), if_pos hS]
    have eO : spLo 1 c v t s.1 = (2 * (spLf c v t s.1 - s.1 - 2)) :: spCh v (s.1 + 1) (spLf c v t s.1 - s.1 - 2).toNat := by unfold spLo; rw [if_pos hl1, if_neg (by omega), if_neg (by omega), if_neg (by omega), if_pos hS]
    obtain ⟨s', e1, e2, e3, e4⟩ := Vr_str (m := m + 2) (g := g) (s := s) h X V q0 (by omega) r eL
    obtain ⟨m1, m2, m3⟩ := mk s' e3
    rw [eO]
    refine ⟨s', Vr_dS X S t0 d0 d1 rz_b hS e1, e2, m1, m2, fun z => ⟨e4 z, m3, ?_⟩⟩
    rw [List.length_cons, spCh_len]
    have b := spLf_b (N := K 7) (c := c) (V_lt V).1 t s.1 q0 q1
    unfold bd at b
    by_cases d : v s.1 = 34
    · rw [if_pos d] at eL
      have hs7 := (V_lt V).2.2 s.1 (by omega)
      have b2 := spStr_b (N := K 7) (V_lt V).1 12 (s.1 + 1) (by omega) (by omega)
      unfold bd at b2
      omega
    · rw [if_neg d] at eL; omega
  · -- E
    have eL : spLf c v t s.1 = if spIx c (t + 2) (v s.1) (spSy c (t + 2) 8 0) < 0 then -1 - s.1 else s.1 + 1 := by unfold spLf; rw [if_neg (by omega), if_neg (by omega), if_pos hE]
    have eO : spLo 1 c v t s.1 = [2 * spIx c (t + 2) (v s.1) (spSy c (t + 2) 8 0)] := by unfold spLo; rw [if_pos hl1, if_neg (by omega), if_neg (by omega), if_pos hE]
    have tl := l4 t (by omega)
    obtain ⟨s', e1, e2, e3, e4⟩ := Vr_sym (m := m + 1) (g := g) (s := s) h X V S q0 (by omega) t0 (by omega) hE2 r1 rfl
    obtain ⟨m1, m2, m3⟩ := mk s' e3
    rw [eL, eO]
    by_cases d : spIx c (t + 2) (v s.1) (spSy c (t + 2) 8 0) < 0
    · rw [if_pos d] at e1 e2
      rw [if_pos d, if_neg (show ¬ 0 ≤ -1 - s.1 by omega)]
      refine ⟨_, Vr_dE X S t0 d0 d1 (Or.inl rfl) hE e1, ?_, m1, m2, fun z => absurd z (by omega)⟩
      unfold vEnd; rw [if_neg (show ¬ 0 ≤ -1 - s.1 by omega)]; omega
    · rw [if_neg d] at e1 e2
      rw [if_neg d, if_pos (show 0 ≤ s.1 + 1 by omega)]
      refine ⟨_, Vr_dE X S t0 d0 d1 (Or.inr rfl) hE e1, ?_, m1, m2, fun _ => ⟨e4 (by omega), m3, by show ((1 : Nat) : Int) ≤ _; omega⟩⟩
      unfold vEnd; rw [if_pos (show 0 ≤ s.1 + 1 by omega)]; exact e2
