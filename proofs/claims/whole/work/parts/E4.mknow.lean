/-- the bit of fit for the reader's node r and the writer's node 120 + k -/
def fbt (W : Nat → Int64) (r k : Int) : Bool := (W (2 * r + k / 64).toNat).toBitVec.getLsbD (k % 64).toNat
theorem kn_div : ∀ k : Nat, k < 120 → (Int32.ofInt (k : Int) / 64 : Int32) = Int32.ofInt ((k / 64 : Nat) : Int) := by decide +kernel
theorem kn_sh : ∀ k : Nat, k < 120 → ((Int32.ofInt (k : Int) - Int32.ofInt ((k / 64 : Nat) : Int) * 64).toInt64 &&& 63) = Int64.ofInt ((k % 64 : Nat) : Int) := by decide +kernel
theorem kn_sm : ∀ i : Nat, i < 64 → ((Int64.ofInt (i : Int)).toBitVec.smod 64).toNat = i := by decide +kernel
theorem kn_one : ∀ i : Nat, i < 64 → ((1 : Int64) <<< (Int64.ofInt (i : Int))).toBitVec = BitVec.twoPow 64 i := by decide +kernel
theorem lg_eq (x y : Int64) : (lg_cmp x y = 0) ↔ x = y := by
  unfold lg_cmp
  by_cases a : x > y
  · rw [if_pos a]
    exact ⟨fun z => absurd z (by decide), fun z => by rw [z] at a; exact absurd a (Int64.lt_irrefl)⟩
  · rw [if_neg a]
    by_cases b : x = y
    · rw [if_pos b]; exact ⟨fun _ => b, fun _ => rfl⟩
    · rw [if_neg b]; exact ⟨fun z => absurd z (by decide), fun z => absurd z b⟩
theorem kn_bit (v : Int64) {i : Nat} (hi : i < 64) : (lg_cmp ((v >>> Int64.ofInt (i : Int)) &&& 1) 1 = 0) ↔ v.toBitVec.getLsbD i = true := by
  rw [lg_eq, ← Int64.toBitVec_inj, Int64.toBitVec_and, Int64.toBitVec_shiftRight]
  have e : v.toBitVec.sshiftRight' ((Int64.ofInt (i : Int)).toBitVec.smod 64) = v.toBitVec.sshiftRight i := by
    rw [BitVec.sshiftRight_eq', kn_sm i hi]
  rw [e]
  have b0 : (v.toBitVec.sshiftRight i).getLsbD 0 = v.toBitVec.getLsbD i := by
    rw [BitVec.getLsbD_sshiftRight]
    simp only [show ¬ (64 ≤ 0) by omega, decide_false, Bool.not_false, Bool.true_and, Nat.add_zero]
    rw [if_pos (by omega)]
  rw [← b0]
  generalize v.toBitVec.sshiftRight i = x
  rw [show (1 : Int64).toBitVec = BitVec.twoPow 64 0 from rfl, BitVec.and_twoPow]
  by_cases c : x.getLsbD 0 = true
  · rw [if_pos c]; exact ⟨fun _ => c, fun _ => rfl⟩
  · rw [if_neg c]
    exact ⟨fun z => absurd z (by decide), fun z => absurd z c⟩
theorem Model_knows_z {m : Nat} {h : ax_Hp} {s : mS} {r k : Int} (r0 : 0 ≤ r) (r1 : r < 120) (k0 : 0 ≤ k) (k1 : k < 120) : ax_F (m + 1) 183 [ax_A (some 24), ax_I (Int32.ofInt r), ax_I (Int32.ofInt (120 + k))] (mH h s) = some (.inl (some (ax_I (Int32.ofInt (bI (fbt s.2.2.2 r k))))), mH h s) := by
  obtain ⟨k, rfl⟩ : ∃ j : Nat, k = j := ⟨k.toNat, by omega⟩
  rw [Model_knows_F]
  unfold Model_knows_b
  rw [mgr_42, Option.bind_some, show ∀ q : ax_O, ax_nz 64 q = q from fun q => if_neg (by decide), show (120 : Int32) = Int32.ofInt 120 from rfl, zi_sub, show 120 + (k : Int) - 120 = (k : Int) by omega, kn_div k (by omega), show (2 : Int32) = Int32.ofInt 2 from rfl, zi_mul, zi_add, mld_42 h s _ (by omega) (by omega), Option.bind_some, show ∀ q : ax_O, ax_nz 64 q = q from fun q => if_neg (by decide), kn_sh k (by omega)]
  unfold fbt
  rw [show 2 * r + (k : Int) / 64 = 2 * r + ((k / 64 : Nat) : Int) by omega, show ((k : Int) % 64).toNat = k % 64 by omega]
  by_cases b : (s.2.2.2 (2 * r + ((k / 64 : Nat) : Int)).toNat).toBitVec.getLsbD (k % 64) = true
  · rw [if_pos ((kn_bit _ (by omega)).mpr b), b]
    exact za_rz (v := 1) (Or.inr rfl)
  · rw [if_neg (fun z => b ((kn_bit _ (by omega)).mp z))]
    rw [Bool.not_eq_true] at b
    rw [b]
    exact za_rz (v := 0) (Or.inl rfl)
/-- node n stands for the type at t, which is read; its nodes lie below hi -/
def gN (A : Nat → Nat → Int) (c : Int → Int) (hi : Int) (D : Nat) (n t : Int) : Prop := NdS A c D n t ∧ n + spN c D t ≤ hi ∧ 0 ≤ t ∧ 0 ≤ spTy c D t
theorem pch_nd2 {nx : Nat → Int} {sz : Int → Int} (hz : ∀ x, 1 ≤ sz x) {P P' : Int → Int → Prop} : ∀ (l : List Int) (m : Int), 0 ≤ m → m + lsz sz l ≤ 240 → (∀ k x, x ∈ l → m ≤ k → k + sz x ≤ m + lsz sz l → P k x → P' k x) → l ≠ [] → pch nx sz P m l → ndCh nx P' m l
  | [], _, _, _, _, h, _ => absurd rfl h
  | [x], m, m0, hm, hP, _, ⟨h1, h2, _⟩ => by
    have := hz x
    rw [lsz_cons, lsz_nil] at hm hP
    rw [if_pos rfl] at h2
    exact ⟨m0, by omega, hP m x List.mem_cons_self (by omega) (by omega) h1, h2⟩
  | x :: y :: l, m, m0, hm, hP, _, ⟨h1, h2, h3⟩ => by
    have := hz x
    have ny := lsz_nn hz (y :: l)
    rw [lsz_cons] at hm hP
    rw [if_neg (by simp)] at h2
    refine ⟨m0, by omega, hP m x List.mem_cons_self (by omega) (by omega) h1, ?_⟩
    rw [h2]
    exact pch_nd2 hz (y :: l) (m + sz x) (by omega) (by omega) (fun k z hz' a b d => hP k z (List.mem_cons_of_mem _ hz') (by omega) (by omega) d) (by simp) h3
theorem pch_ex {nx : Nat → Int} {sz : Int → Int} (hz : ∀ x, 1 ≤ sz x) {P : Int → Int → Prop} : ∀ (l : List Int) (m : Int), pch nx sz P m l → ∀ j, m ≤ j → j < m + lsz sz l → ∃ k x, x ∈ l ∧ P k x ∧ k ≤ j ∧ j < k + sz x ∧ m ≤ k ∧ k + sz x ≤ m + lsz sz l
  | [], m, _, j, j0, j1 => by rw [lsz_nil] at j1; omega
  | x :: l, m, ⟨h1, h2, h3⟩, j, j0, j1 => by
    have := hz x
    have ny := lsz_nn hz l
    rw [lsz_cons] at j1 ⊢
    by_cases a : j < m + sz x
    · exact ⟨m, x, List.mem_cons_self, h1, j0, a, by omega, by omega⟩
    · obtain ⟨k, y, y1, y2, y3, y4, y5, y6⟩ := pch_ex hz l (m + sz x) h3 j (by omega) (by omega)
      exact ⟨k, y, List.mem_cons_of_mem _ y1, y2, y3, y4, by omega, by omega⟩
theorem gN_A {A : Nat → Nat → Int} {c : Int → Int} {hi : Int} {D : Nat} {n t : Int} (g : gN A c hi D n t) (hA : c t = 65) : ∃ D', D = D' + 1 ∧ A 18 n.toNat = n + 1 ∧ gN A c hi D' (n + 1) (t + 1) := by
  obtain ⟨g1, g2, g3, g4⟩ := g
  cases D with
  | zero => exact absurd hA g1.2.1
  | succ D =>
    obtain ⟨a1, a2⟩ := g1.2.1 hA
    have e : spN c (D + 1) t = 1 + spN c D (t + 1) := by rw [spN_s, if_pos hA]
    exact ⟨D, rfl, a1, a2, by omega, by omega, by rw [← spTy_A hA]; exact g4⟩
theorem gN_U {N : Int} {A : Nat → Nat → Int} {c : Int → Int} {hi : Int} {D : Nat} {n t : Int} (hc : ∀ p, N ≤ p → c p = 0) (hh : hi ≤ 240) (g : gN A c hi D n t) (hU : c t = 85) : ∃ D', D = D' + 1 ∧ A 20 n.toNat = (spPt c D t).length ∧ (spPt c D t).length ≤ 4 ∧ spPt c D t ≠ [] ∧ ndCh (A 19) (fun m x => n < m ∧ gN A c hi D' m x) (A 18 n.toNat) (spPt c D t) := by
  obtain ⟨g1, g2, g3, g4⟩ := g
  cases D with
  | zero => exact absurd hU g1.2.2.1
  | succ D =>
    obtain ⟨a1, a2, a3, a4⟩ := g1.2.2.1 hU
    have e : spN c (D + 1) t = 1 + lsz (spN c D) (spPt c (D + 1) t) := by rw [spN_s, if_neg (by omega), if_pos hU]
    obtain ⟨p1, p2, p3⟩ := spPt_U hc g3 g4 hU
    have n0 := g1.1.1
    have hne : spPt c (D + 1) t ≠ [] := by obtain ⟨l, e2⟩ := a3; rw [e2]; simp
    refine ⟨D, rfl, a2, p2, hne, ?_⟩
    rw [a1]
    exact pch_nd2 (spN_1 c D) _ _ (by omega) (by omega) (fun k x hx q1 q2 z => ⟨by omega, z.2, by omega, by have := (p3 x hx).1; omega, (p3 x hx).2.1⟩) hne a4
theorem gN_R {N : Int} {A : Nat → Nat → Int} {c : Int → Int} {hi : Int} {D : Nat} {n t : Int} (hN : 0 ≤ N) (hc : ∀ p, N ≤ p → c p = 0) (hh : hi ≤ 240) (g : gN A c hi D n t) (hR : c t = 82) : ∃ D', D = D' + 1 ∧ A 20 n.toNat = (spPt c D t).length ∧ (spPt c D t).length ≤ 6 ∧ spPt c D t ≠ [] ∧ ndCh (A 19) (fun m x => n < m ∧ A 21 m.toNat = c x ∧ A 24 m.toNat = spGv c D' x ∧ gN A c hi D' m (x + 2)) (A 18 n.toNat) (spPt c D t) := by
  obtain ⟨g1, g2, g3, g4⟩ := g
  cases D with
  | zero => exact absurd hR g1.2.2.2
  | succ D =>
    obtain ⟨a1, a2, a3, a4⟩ := g1.2.2.2 hR
    have e : spN c (D + 1) t = 1 + lsz (fun x => spN c D (x + 2)) (spPt c (D + 1) t) := by rw [spN_s, if_neg (by omega), if_neg (by omega), if_pos hR]
    obtain ⟨p1, p2, p3⟩ := spPt_R hN hc g3 g4 hR
    have n0 := g1.1.1
    have hne : spPt c (D + 1) t ≠ [] := by obtain ⟨l, e2⟩ := a3; rw [e2]; simp
    refine ⟨D, rfl, a2, p2, hne, ?_⟩
    rw [a1]
    exact pch_nd2 (sz := fun x => spN c D (x + 2)) (fun x => spN_1 c D (x + 2)) _ _ (by omega) (by omega) (fun k x hx q1 q2 z => ⟨by omega, z.1, z.2.1, z.2.2, by omega, by have := (p3 x hx).1; omega, (p3 x hx).2.1⟩) hne a4
/-- every node in reach stands for some type -/
theorem gN_ex {N : Int} {A : Nat → Nat → Int} {c : Int → Int} {hi : Int} (hN : 0 ≤ N) (hc : ∀ p, N ≤ p → c p = 0) : ∀ (D : Nat) (n t : Int), gN A c hi D n t → ∀ j, n ≤ j → j < n + spN c D t → ∃ D' t', D' ≤ D ∧ gN A c hi D' j t'
  | 0, n, t, g, j, j0, j1 => by
    have e : spN c 0 t = 1 := rfl
    have : j = n := by omega
    exact ⟨0, t, Nat.le_refl _, by rw [this]; exact g⟩
  | D + 1, n, t, g, j, j0, j1 => by
    by_cases jn : j = n
    · exact ⟨D + 1, t, Nat.le_refl _, by rw [jn]; exact g⟩
    · obtain ⟨g1, g2, g3, g4⟩ := g
      by_cases hA : c t = 65
      · obtain ⟨D', hD, _, g'⟩ := gN_A ⟨g1, g2, g3, g4⟩ hA
        have e : spN c (D + 1) t = 1 + spN c D (t + 1) := by rw [spN_s, if_pos hA]
        have hD' : D' = D := by omega
        subst hD'
        obtain ⟨E, t', h1, h2⟩ := gN_ex hN hc D' (n + 1) (t + 1) g' j (by omega) (by omega)
        exact ⟨E, t', by omega, h2⟩
      · by_cases hU : c t = 85
        · obtain ⟨a1, a2, a3, a4⟩ := g1.2.2.1 hU
          have e : spN c (D + 1) t = 1 + lsz (spN c D) (spPt c (D + 1) t) := by rw [spN_s, if_neg (by omega), if_pos hU]
          obtain ⟨p1, p2, p3⟩ := spPt_U hc g3 g4 hU
          obtain ⟨k, x, y1, y2, y3, y4, y5, y6⟩ := pch_ex (spN_1 c D) _ _ a4 j (by omega) (by omega)
          obtain ⟨E, t', h1, h2⟩ := gN_ex (hi := hi) hN hc D k x ⟨y2.2, by omega, by have := (p3 x y1).1; omega, (p3 x y1).2.1⟩ j y3 y4
          exact ⟨E, t', by omega, h2⟩
        · by_cases hR : c t = 82
          · obtain ⟨a1, a2, a3, a4⟩ := g1.2.2.2 hR
            have e : spN c (D + 1) t = 1 + lsz (fun x => spN c D (x + 2)) (spPt c (D + 1) t) := by rw [spN_s, if_neg (by omega), if_neg (by omega), if_pos hR]
            obtain ⟨p1, p2, p3⟩ := spPt_R hN hc g3 g4 hR
            obtain ⟨k, x, y1, y2, y3, y4, y5, y6⟩ := pch_ex (sz := fun x => spN c D (x + 2)) (fun x => spN_1 c D (x + 2)) _ _ a4 j (by omega) (by omega)
            obtain ⟨E, t', h1, h2⟩ := gN_ex (hi := hi) hN hc D k (x + 2) ⟨y2.2.2, by omega, by have := (p3 x y1).1; omega, (p3 x y1).2.1⟩ j y3 y4
            exact ⟨E, t', by omega, h2⟩
          · have e : spN c (D + 1) t = 1 := by rw [spN_s, if_neg hA, if_neg hU, if_neg hR]
            omega
