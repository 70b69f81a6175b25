def vOkD (n v c : Int32) : Prop := isSub n = true ∧ ¬ v < 0 ∧ ¬ c ≤ v
theorem Desk_versionAt_no {m : Nat} {n v c : Int32} {h : ax_Hp} {fs gs : List ax_T} (hd : h.2.2 1 = some (.inl (8, fs))) (hfs : fs[3]? = some (ax_A (some 14))) (hj : h.2.2 14 = some (.inr (5, sjs))) (hg : isSub n = true → h.2.2 (15 + 2 * n.toNatClampNeg) = some (.inl (6, gs)) ∧ gs[1]? = some (ax_I c)) (hv : ¬ vOkD n v c) (hc : h.1 + 1 ≤ ax_CM) (hs : h.2.1 + 6 ≤ ax_SM) : ax_F (m + 2) 94 [ax_A (some 1), ax_I n, ax_I v] h = some (.inr (0, h.1 + 1), thr h) := by
  rw [Desk_versionAt_F]
  unfold Desk_versionAt_b
  rw [pl_on hd]
  by_cases c1 : isSub n = true
  · obtain ⟨g1, g2⟩ := hg c1
    have e : ax_F (m + 1) 95 [ax_A (some (15 + 2 * n.toNatClampNeg)), ax_I v] h = some (.inl (some (ax_A none)), h) := by
      rw [Subject_version_F]
      unfold Subject_version_b
      by_cases c2 : v < 0
      · rw [if_pos c2]; rfl
      · rw [if_neg c2, pl_gi g1 g2, Option.bind_some]
        by_cases c3 : c ≤ v
        · rw [if_pos c3]; rfl
        · exact absurd ⟨c1, c2, c3⟩ hv
    rw [pl_cr (Desk_subjectAt_e hd hfs hj c1), pl_on g1, pl_cr e, if_pos rfl, ax_th_e hc hs]
  · rw [pl_cr_x (Desk_subjectAt_no c1 hc hs)]
theorem Desk_versionAt_y {m : Nat} {n v c : Int32} {a b : Nat} {h : ax_Hp} {fs gs ks : List ax_T} (hd : h.2.2 1 = some (.inl (8, fs))) (hfs : fs[3]? = some (ax_A (some 14))) (hj : h.2.2 14 = some (.inr (5, sjs))) (hg : h.2.2 (15 + 2 * n.toNatClampNeg) = some (.inl (6, gs))) (hg1 : gs[1]? = some (ax_I c)) (hg0 : gs[0]? = some (ax_A (some b))) (hk : h.2.2 b = some (.inr (6, ks))) (hv : vOkD n v c) (ha : ks[v.toNatClampNeg]? = some (ax_A (some a))) : ax_F (m + 2) 94 [ax_A (some 1), ax_I n, ax_I v] h = some (.inl (some (ax_A (some a))), h) := by
  obtain ⟨c1, c2, c3⟩ := hv
  rw [Desk_versionAt_F]
  unfold Desk_versionAt_b
  have e : ax_F (m + 1) 95 [ax_A (some (15 + 2 * n.toNatClampNeg)), ax_I v] h = some (.inl (some (ax_A (some a))), h) := by
    rw [Subject_version_F]
    unfold Subject_version_b
    rw [if_neg c2, pl_gi hg hg1, Option.bind_some, if_neg c3, pl_gr hg hg0, Option.bind_some]
    have e1 : ax_ldr h (some b) 6 v = some (some a) := by
      unfold ax_ldr ax_ld
      rw [pl_arr hk, Option.bind_some, if_neg c2, ha]
      rfl
    rw [e1]
    rfl
  rw [pl_on hd, pl_cr (Desk_subjectAt_e hd hfs hj c1), pl_on hg, pl_cr e, if_neg (fun z => nomatch z)]
  rfl
theorem Desk_reads_no {m : Nat} {n v w c : Int32} {h : ax_Hp} {fs gs : List ax_T} (hd : h.2.2 1 = some (.inl (8, fs))) (hfs : fs[3]? = some (ax_A (some 14))) (hj : h.2.2 14 = some (.inr (5, sjs))) (hg : isSub n = true → h.2.2 (15 + 2 * n.toNatClampNeg) = some (.inl (6, gs)) ∧ gs[1]? = some (ax_I c)) (hv : ¬ (vOkD n v c ∧ vOkD n w c)) (hk : vOkD n v c → ∃ b ks a, gs[0]? = some (ax_A (some b)) ∧ h.2.2 b = some (.inr (6, ks)) ∧ ks[v.toNatClampNeg]? = some (ax_A (some a))) (hc : h.1 + 1 ≤ ax_CM) (hs : h.2.1 + 6 ≤ ax_SM) : ax_F (m + 3) 93 [ax_A (some 1), ax_I n, ax_I v, ax_I w] h = some (.inr (0, h.1 + 1), thr h) := by
  rw [Desk_reads_F]
  unfold Desk_reads_b
  rw [pl_on hd]
  by_cases q : vOkD n v c
  · obtain ⟨b, ks, a, k1, k2, k3⟩ := hk q
    obtain ⟨g1, g2⟩ := hg q.1
    rw [pl_cr (Desk_versionAt_y hd hfs hj g1 g2 k1 k2 q k3), pl_on hd, pl_cr_x (Desk_versionAt_no hd hfs hj hg (fun d => hv ⟨q, d⟩) hc hs)]
  · rw [pl_cr_x (Desk_versionAt_no hd hfs hj hg q hc hs)]
theorem Law_reads_no {m : Nat} {n v w c : Int32} {h : ax_Hp} {o : Option Nat} {fs gs : List ax_T} (hd : h.2.2 1 = some (.inl (8, fs))) (hfs : fs[3]? = some (ax_A (some 14))) (hj : h.2.2 14 = some (.inr (5, sjs))) (hg : isSub n = true → h.2.2 (15 + 2 * n.toNatClampNeg) = some (.inl (6, gs)) ∧ gs[1]? = some (ax_I c)) (hv : ¬ (vOkD n v c ∧ vOkD n w c)) (hk : vOkD n v c → ∃ b ks a, gs[0]? = some (ax_A (some b)) ∧ h.2.2 b = some (.inr (6, ks)) ∧ ks[v.toNatClampNeg]? = some (ax_A (some a))) (hc : h.1 + 1 ≤ ax_CM) (hs : h.2.1 + 6 ≤ ax_SM) : ax_F (m + 4) 92 [ax_A (some 1), ax_I n, ax_I v, ax_I w, ax_A o] h = some (.inl (some (ax_I 1)), thr h) := by
  rw [Law_reads_F]
  unfold Law_reads_b
  rw [pl_on hd, pl_cx_x (Desk_reads_no hd hfs hj hg hv hk hc hs), if_pos rfl]
  rfl
theorem Desk_print_no {m : Nat} {n v b c : Int32} {h : ax_Hp} {fs gs : List ax_T} (hd : h.2.2 1 = some (.inl (8, fs))) (hfs : fs[3]? = some (ax_A (some 14))) (hj : h.2.2 14 = some (.inr (5, sjs))) (hg : isSub n = true → h.2.2 (15 + 2 * n.toNatClampNeg) = some (.inl (6, gs)) ∧ gs[1]? = some (ax_I c)) (hv : ¬ vOkD n v c) (hc : h.1 + 1 ≤ ax_CM) (hs : h.2.1 + 6 ≤ ax_SM) : ax_F (m + 3) 97 [ax_A (some 1), ax_I n, ax_I v, ax_I b] h = some (.inr (0, h.1 + 1), thr h) := by
  rw [Desk_print_F]
  unfold Desk_print_b
  rw [pl_on hd, pl_cr_x (Desk_versionAt_no hd hfs hj hg hv hc hs)]
theorem Law_print_no {m : Nat} {n v b c : Int32} {h : ax_Hp} {o : Option Nat} {fs gs : List ax_T} (hd : h.2.2 1 = some (.inl (8, fs))) (hfs : fs[3]? = some (ax_A (some 14))) (hj : h.2.2 14 = some (.inr (5, sjs))) (hg : isSub n = true → h.2.2 (15 + 2 * n.toNatClampNeg) = some (.inl (6, gs)) ∧ gs[1]? = some (ax_I c)) (hv : ¬ vOkD n v c) (hc : h.1 + 1 ≤ ax_CM) (hs : h.2.1 + 6 ≤ ax_SM) : ax_F (m + 4) 96 [ax_A (some 1), ax_I n, ax_I v, ax_I b, ax_A o] h = some (.inl (some (ax_I 1)), thr h) := by
  rw [Law_print_F]
  unfold Law_print_b
  rw [pl_on hd, pl_cx_x (Desk_print_no hd hfs hj hg hv hc hs), if_pos rfl]
  rfl
theorem Desk_fingerprint_no {m : Nat} {n v c : Int32} {h : ax_Hp} {fs gs : List ax_T} (hd : h.2.2 1 = some (.inl (8, fs))) (hfs : fs[3]? = some (ax_A (some 14))) (hj : h.2.2 14 = some (.inr (5, sjs))) (hg : isSub n = true → h.2.2 (15 + 2 * n.toNatClampNeg) = some (.inl (6, gs)) ∧ gs[1]? = some (ax_I c)) (hv : ¬ vOkD n v c) (hc : h.1 + 1 ≤ ax_CM) (hs : h.2.1 + 6 ≤ ax_SM) : ax_F (m + 3) 102 [ax_A (some 1), ax_I n, ax_I v] h = some (.inr (0, h.1 + 1), thr h) := by
  rw [Desk_fingerprint_F]
  unfold Desk_fingerprint_b
  rw [pl_on hd, pl_cr_x (Desk_versionAt_no hd hfs hj hg hv hc hs)]
theorem Law_fingerprint_no {m : Nat} {n v c : Int32} {h : ax_Hp} {o : Option Nat} {fs gs : List ax_T} (hd : h.2.2 1 = some (.inl (8, fs))) (hfs : fs[3]? = some (ax_A (some 14))) (hj : h.2.2 14 = some (.inr (5, sjs))) (hg : isSub n = true → h.2.2 (15 + 2 * n.toNatClampNeg) = some (.inl (6, gs)) ∧ gs[1]? = some (ax_I c)) (hv : ¬ vOkD n v c) (hc : h.1 + 1 ≤ ax_CM) (hs : h.2.1 + 6 ≤ ax_SM) : ax_F (m + 4) 101 [ax_A (some 1), ax_I n, ax_I v, ax_A o] h = some (.inl (some (ax_I 1)), thr h) := by
  rw [Law_fingerprint_F]
  unfold Law_fingerprint_b
  rw [pl_on hd, pl_cx_x (Desk_fingerprint_no hd hfs hj hg hv hc hs), if_pos rfl]
  rfl
theorem Desk_encode_no {m : Nat} {n v c : Int32} {h : ax_Hp} {fs gs : List ax_T} (hd : h.2.2 1 = some (.inl (8, fs))) (hfs : fs[3]? = some (ax_A (some 14))) (hj : h.2.2 14 = some (.inr (5, sjs))) (hg : isSub n = true → h.2.2 (15 + 2 * n.toNatClampNeg) = some (.inl (6, gs)) ∧ gs[1]? = some (ax_I c)) (hv : ¬ vOkD n v c) (hc : h.1 + 1 ≤ ax_CM) (hs : h.2.1 + 6 ≤ ax_SM) : ax_F (m + 3) 105 [ax_A (some 1), ax_I n, ax_I v] h = some (.inr (0, h.1 + 1), thr h) := by
  rw [Desk_encode_F]
  unfold Desk_encode_b
  rw [pl_on hd, pl_cr_x (Desk_versionAt_no hd hfs hj hg hv hc hs)]
theorem Law_encode_no {m : Nat} {n v c : Int32} {h : ax_Hp} {o : Option Nat} {fs gs : List ax_T} (hd : h.2.2 1 = some (.inl (8, fs))) (hfs : fs[3]? = some (ax_A (some 14))) (hj : h.2.2 14 = some (.inr (5, sjs))) (hg : isSub n = true → h.2.2 (15 + 2 * n.toNatClampNeg) = some (.inl (6, gs)) ∧ gs[1]? = some (ax_I c)) (hv : ¬ vOkD n v c) (hc : h.1 + 1 ≤ ax_CM) (hs : h.2.1 + 6 ≤ ax_SM) : ax_F (m + 4) 104 [ax_A (some 1), ax_I n, ax_I v, ax_A o] h = some (.inl (some (ax_I 1)), thr h) := by
  rw [Law_encode_F]
  unfold Law_encode_b
  rw [pl_on hd, pl_cx_x (Desk_encode_no hd hfs hj hg hv hc hs), if_pos rfl]
  rfl
theorem Desk_decode_no {m : Nat} {n v w c : Int32} {h : ax_Hp} {fs gs : List ax_T} (hd : h.2.2 1 = some (.inl (8, fs))) (hfs : fs[3]? = some (ax_A (some 14))) (hj : h.2.2 14 = some (.inr (5, sjs))) (hg : isSub n = true → h.2.2 (15 + 2 * n.toNatClampNeg) = some (.inl (6, gs)) ∧ gs[1]? = some (ax_I c)) (hv : ¬ (vOkD n v c ∧ vOkD n w c)) (hk : vOkD n v c → ∃ b ks a, gs[0]? = some (ax_A (some b)) ∧ h.2.2 b = some (.inr (6, ks)) ∧ ks[v.toNatClampNeg]? = some (ax_A (some a))) (hc : h.1 + 1 ≤ ax_CM) (hs : h.2.1 + 6 ≤ ax_SM) : ax_F (m + 3) 108 [ax_A (some 1), ax_I n, ax_I v, ax_I w] h = some (.inr (0, h.1 + 1), thr h) := by
  rw [Desk_decode_F]
  unfold Desk_decode_b
  rw [pl_on hd]
  by_cases q : vOkD n v c
  · obtain ⟨b, ks, a, k1, k2, k3⟩ := hk q
    obtain ⟨g1, g2⟩ := hg q.1
    rw [pl_cr (Desk_versionAt_y hd hfs hj g1 g2 k1 k2 q k3), pl_on hd, pl_cr_x (Desk_versionAt_no hd hfs hj hg (fun d => hv ⟨q, d⟩) hc hs)]
  · rw [pl_cr_x (Desk_versionAt_no hd hfs hj hg q hc hs)]
theorem Law_decode_no {m : Nat} {n v w c : Int32} {h : ax_Hp} {o : Option Nat} {fs gs : List ax_T} (hd : h.2.2 1 = some (.inl (8, fs))) (hfs : fs[3]? = some (ax_A (some 14))) (hj : h.2.2 14 = some (.inr (5, sjs))) (hg : isSub n = true → h.2.2 (15 + 2 * n.toNatClampNeg) = some (.inl (6, gs)) ∧ gs[1]? = some (ax_I c)) (hv : ¬ (vOkD n v c ∧ vOkD n w c)) (hk : vOkD n v c → ∃ b ks a, gs[0]? = some (ax_A (some b)) ∧ h.2.2 b = some (.inr (6, ks)) ∧ ks[v.toNatClampNeg]? = some (ax_A (some a))) (hc : h.1 + 1 ≤ ax_CM) (hs : h.2.1 + 6 ≤ ax_SM) : ax_F (m + 4) 107 [ax_A (some 1), ax_I n, ax_I v, ax_I w, ax_A o] h = some (.inl (some (ax_I 1)), thr h) := by
  rw [Law_decode_F]
  unfold Law_decode_b
  rw [pl_on hd, pl_cx_x (Desk_decode_no hd hfs hj hg hv hk hc hs), if_pos rfl]
  rfl
