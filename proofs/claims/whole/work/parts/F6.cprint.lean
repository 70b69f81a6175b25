theorem lsF_nil (f : Nat → Int) : lsF f [] = f := by
  funext j
  exact if_neg (Nat.not_lt_zero _)
theorem rH_0 {h : ax_Hp} {dr di : Nat} {fd : Nat → Int} (hdi : h.2.2 di = some (.inr (1, arL 400 fd))) (hne : dr ≠ di) : ax_set h dr (rwO di 0) = rH h dr di fd [] := by
  refine Prod.ext rfl (Prod.ext rfl ?_)
  funext q
  by_cases c1 : q = dr
  · rw [c1, pl_set, rH_dr]
    rfl
  · rw [pl_ne c1]
    by_cases c2 : q = di
    · rw [c2, rH_di _ _ _ hne, lsF_nil, hdi]
    · rw [rH_o c1 c2]
/-- the class copies a version's text -/
theorem Sc_copy {m dr di sc l : Nat} {h : ax_Hp} {c : Int → Int} {fe fn fu fd : Nat → Int} (V : verX h sc l c fe fn fu) (h1 : dr < 60) (h2 : di < 60) (hne : dr ≠ di) : ∃ L, ax_F (m + 2) 99 [ax_A (some sc), ax_A (some dr)] (rH h dr di fd []) = some (.inl none, rH h dr di fd L) ∧ shL c l 0 L := by
  have l1 := V.2.2.2.2.2.2.2.2.1
  refine ⟨spCh c 0 l, ?_, fun _ => 0, ?_, fun p _ _ => ⟨fun _ => rfl, fun q => absurd rfl q⟩⟩
  · rw [Schema_copyTo_F]
    unfold Schema_copyTo_b
    exact Sc_copyL (m := m) (f0 := fd) V h1 h2 hne l 0 [] ax_fuel (by omega) (by omega) (by rw [List.length_nil]; omega) (by unfold ax_fuel; omega)
  · rw [show ((l : Nat) : Int).toNat = l by omega]
    exact (spBt_0 l 0 (fun _ _ _ => rfl)).symm
/-- the class copies a version's bare text -/
theorem Sc_bare {m dr di sc l : Nat} {h : ax_Hp} {c : Int → Int} {fe fn fu fd : Nat → Int} {b : Int32} (V : verX h sc l c fe fn fu) (h1 : dr < 60) (h2 : di < 60) (hne : dr ≠ di) (hb : ¬ b = 0) : ∃ L, ax_F (m + 2) 98 [ax_A (some sc), ax_A (some dr)] (rH h dr di fd []) = some (.inl none, rH h dr di fd L) ∧ shL c l b L := by
  have l1 := V.2.2.2.2.2.2.2.2.1
  have V' := V
  obtain ⟨-, -, -, -, -, -, -, -, -, hc, -, gT, gE, gM⟩ := V
  have ch : ∀ p : Int, ∃ x : Int, (x ≠ 0 ↔ spX c 6 0 p) := fun p => (Classical.em (spX c 6 0 p)).elim (fun z => ⟨1, fun _ => z, fun _ => by decide⟩) (fun z => ⟨0, fun w => absurd rfl w, fun w => absurd w z⟩)
  obtain ⟨mk, hmk⟩ := Classical.axiomOfChoice ch
  obtain ⟨k, hk⟩ := bw_all (N := l) (mk := mk) (by omega) hc 6 0 (by omega) (by omega) gM (fun i _ _ => hmk i)
  rw [gT] at hk
  have kl := bw_le _ _ _ hk
  refine ⟨spBt c mk 0 l, ?_, mk, by rw [show ((l : Nat) : Int).toNat = l by omega], fun p _ _ => ⟨fun q => absurd q hb, fun _ => hmk p⟩⟩
  rw [Schema_copyBareTo_F]
  unfold Schema_copyBareTo_b
  have := Sc_bareL (m := m) (f0 := fd) (mk := mk) V' h1 h2 hne k 0 0 [] ax_fuel (by omega) hk (by omega) (by rw [List.length_nil]; omega) (by unfold ax_fuel; omega)
  rw [show ((l : Int) - 0).toNat = l by omega] at this
  exact this
/-- the class prints as the text says -/
theorem Desk_print_y {m sc l o oi dr di : Nat} {nd p z w b : Int32} {h : ax_Hp} {c : Int → Int} {fe fn fu fd : Nat → Int} (O : odX o oi dr di) (hd : h.2.2 1 = some (dkO o dr p)) (hdr : h.2.2 dr = some (rwO di nd)) (hdi : h.2.2 di = some (.inr (1, arL 400 fd))) (V : verX h sc l c fe fn fu) (hv : ax_F (m + 3) 94 [ax_A (some 1), ax_I z, ax_I w] h = some (.inl (some (ax_A (some sc))), h)) : ∃ (h' : ax_Hp) (L : List Int), ax_F (m + 4) 97 [ax_A (some 1), ax_I z, ax_I w, ax_I b] h = some (.inl (some (ax_I (Int32.ofInt L.length))), h') ∧ shL c l b L ∧ h'.1 = h.1 ∧ h'.2.1 = h.2.1 ∧ h'.2.2 1 = some (dkO dr o p) ∧ h'.2.2 dr = some (rwO di (Int32.ofInt L.length)) ∧ h'.2.2 di = some (.inr (1, arL 400 (lsF fd L))) ∧ ∀ a, a ≠ 1 → a ≠ dr → a ≠ di → h'.2.2 a = h.2.2 a := by
  have d1 : dr ≤ 13 ∧ 10 ≤ dr ∧ di ≤ 13 ∧ 10 ≤ di ∧ dr ≠ di := by rcases O with ⟨a, b, c, d⟩ | ⟨a, b, c, d⟩ <;> omega
  obtain ⟨d1, d2, d3, d4, d5⟩ := d1
  have e0 := rH_0 (fd := fd) hdi d5
  have dk : ∀ L, (rH h dr di fd L).2.2 1 = some (dkO o dr p) := fun L => (rH_o (by omega) (by omega)).trans hd
  have sd : ∀ L : List Int, ax_F (m + 3) 100 [ax_A (some 1)] (rH h dr di fd L) = some (.inl (some (ax_I (Int32.ofInt L.length))), ax_set (rH h dr di fd L) 1 (dkO dr o p)) := fun L => Desk_showDraft_e (dk L) (rH_dr h dr di fd L) (by omega)
  have fin : ∀ L : List Int, shL c l b L → ax_F (m + 4) 97 [ax_A (some 1), ax_I z, ax_I w, ax_I b] h = some (.inl (some (ax_I (Int32.ofInt L.length))), ax_set (rH h dr di fd L) 1 (dkO dr o p)) → ∃ (h' : ax_Hp) (L : List Int), ax_F (m + 4) 97 [ax_A (some 1), ax_I z, ax_I w, ax_I b] h = some (.inl (some (ax_I (Int32.ofInt L.length))), h') ∧ shL c l b L ∧ h'.1 = h.1 ∧ h'.2.1 = h.2.1 ∧ h'.2.2 1 = some (dkO dr o p) ∧ h'.2.2 dr = some (rwO di (Int32.ofInt L.length)) ∧ h'.2.2 di = some (.inr (1, arL 400 (lsF fd L))) ∧ ∀ a, a ≠ 1 → a ≠ dr → a ≠ di → h'.2.2 a = h.2.2 a := fun L s1 s2 => ⟨_, L, s2, s1, rfl, rfl, pl_set, by rw [pl_ne (by omega), rH_dr], by rw [pl_ne (by omega), rH_di _ _ _ d5], fun a a1 a2 a3 => by rw [pl_ne a1, rH_o a2 a3]⟩
  have pre : ∀ k : ax_Hp → ax_O, (ax_gr h (some 1) 8 6).bind (fun v3 => ax_on h v3 2 <| ax_ci (ax_F (m + 3) 10 [ax_A v3] h) fun v5 h4 => k h4) = k (rH h dr di fd []) := fun k => by
    rw [pl_gr hd (v := some dr) rfl, Option.bind_some, pl_on hdr, pl_ci (Row_clr hdr), ← e0]
    rfl
  by_cases q : b = 0
  · obtain ⟨L, c1, c2⟩ := Sc_copy (m := m + 1) (fd := fd) V (show dr < 60 by omega) (show di < 60 by omega) d5
    rw [← q] at c2
    refine fin L c2 ?_
    rw [Desk_print_F]
    unfold Desk_print_b
    rw [pl_on hd, pl_cr hv, pre, if_pos q, pl_gr (dk []) (v := some dr) rfl, Option.bind_some, Sa_on (verX_A (verX_rH (f0 := fd) (L := []) V (show dr < 60 by omega) (show di < 60 by omega))), pl_cv c1, pl_on (dk L), pl_ci (sd L)]
    rfl
  · obtain ⟨L, c1, c2⟩ := Sc_bare (m := m + 1) (fd := fd) V (show dr < 60 by omega) (show di < 60 by omega) d5 q
    refine fin L c2 ?_
    rw [Desk_print_F]
    unfold Desk_print_b
    rw [pl_on hd, pl_cr hv, pre, if_neg q, pl_gr (dk []) (v := some dr) rfl, Option.bind_some, Sa_on (verX_A (verX_rH (f0 := fd) (L := []) V (show dr < 60 by omega) (show di < 60 by omega))), pl_cv c1, pl_on (dk L), pl_ci (sd L)]
    rfl
