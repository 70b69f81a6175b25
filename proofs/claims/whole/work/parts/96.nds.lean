def lsz (sz : Int → Int) (l : List Int) : Int := (l.map sz).sum
theorem lsz_cons (sz : Int → Int) (x : Int) (l : List Int) : lsz sz (x :: l) = sz x + lsz sz l := by unfold lsz; rw [List.map_cons, List.sum_cons]
theorem lsz_nil (sz : Int → Int) : lsz sz [] = 0 := rfl
theorem lsz_app (sz : Int → Int) (l k : List Int) : lsz sz (l ++ k) = lsz sz l + lsz sz k := by unfold lsz; rw [List.map_append, List.sum_append]
theorem lsz_nn {sz : Int → Int} (h : ∀ x, 1 ≤ sz x) : ∀ l, (l.length : Int) ≤ lsz sz l
  | [] => Int.le_refl _
  | x :: l => by
    rw [lsz_cons, List.length_cons]
    have := lsz_nn h l
    have := h x
    omega
/-- how many nodes the type at t has -/
def spN (c : Int → Int) : Nat → Int → Int
  | 0, _ => 1
  | D + 1, t => if c t = 65 then 1 + spN c D (t + 1) else if c t = 85 then 1 + lsz (spN c D) (spPt c (D + 1) t) else if c t = 82 then 1 + lsz (fun x => spN c D (x + 2)) (spPt c (D + 1) t) else 1
theorem spN_s (c : Int → Int) (D : Nat) (t : Int) : spN c (D + 1) t = if c t = 65 then 1 + spN c D (t + 1) else if c t = 85 then 1 + lsz (spN c D) (spPt c (D + 1) t) else if c t = 82 then 1 + lsz (fun x => spN c D (x + 2)) (spPt c (D + 1) t) else 1 := rfl
theorem spN_1 (c : Int → Int) : ∀ (D : Nat) (t : Int), 1 ≤ spN c D t
  | 0, _ => Int.le_refl _
  | D + 1, t => by
    rw [spN_s]
    have h1 := spN_1 c D (t + 1)
    have h2 := lsz_nn (fun x => spN_1 c D x) (spPt c (D + 1) t)
    have h3 := lsz_nn (sz := fun x => spN c D (x + 2)) (fun x => spN_1 c D (x + 2)) (spPt c (D + 1) t)
    split
    · omega
    · split
      · omega
      · split
        · omega
        · omega
/-- a chain of nodes that lie one behind the other, from m on -/
def pch (nx : Nat → Int) (sz : Int → Int) (P : Int → Int → Prop) : Int → List Int → Prop
  | _, [] => True
  | m, x :: l => P m x ∧ nx m.toNat = (if l = [] then -1 else m + sz x) ∧ pch nx sz P (m + sz x) l
theorem pch_of {nx nx' : Nat → Int} {sz : Int → Int} (hz : ∀ x, 1 ≤ sz x) {P P' : Int → Int → Prop} : ∀ (l : List Int) (m : Int), 0 ≤ m → (∀ k x, m ≤ k → k + sz x ≤ m + lsz sz l → P k x → P' k x) → (∀ i : Nat, m ≤ i → (i : Int) < m + lsz sz l → nx' i = nx i) → pch nx sz P m l → pch nx' sz P' m l
  | [], _, _, _, _, _ => trivial
  | x :: l, m, m0, hP, hn, ⟨h1, h2, h3⟩ => by
    rw [lsz_cons] at hP hn
    have := lsz_nn hz l
    have := hz x
    exact ⟨hP m x (by omega) (by omega) h1, (hn m.toNat (by omega) (by omega)).trans h2, pch_of hz l (m + sz x) (by omega) (fun k y a b => hP k y (by omega) (by omega)) (fun i a b => hn i (by omega) (by omega)) h3⟩
/-- one more at the end -/
theorem pch_snoc {nx nx' : Nat → Int} {sz : Int → Int} (hz : ∀ x, 1 ≤ sz x) {P P' : Int → Int → Prop} {q : Int} : ∀ (l : List Int) (m : Int), 0 ≤ m → (∀ k x, m ≤ k → k + sz x ≤ m + lsz sz l → (k + sz x ≤ m + lsz sz l.dropLast ∨ k = m + lsz sz l.dropLast) → P k x → P' k x) → (∀ i : Nat, m ≤ i → (i : Int) < m + lsz sz l → (i : Int) ≠ m + lsz sz l.dropLast → nx' i = nx i) → (l ≠ [] → nx' (m + lsz sz l.dropLast).toNat = m + lsz sz l) → P' (m + lsz sz l) q → nx' (m + lsz sz l).toNat = -1 → pch nx sz P m l → pch nx' sz P' m (l ++ [q])
  | [], m, m0, hP, hn, hl, hq, hq2, _ => by
    rw [lsz_nil, Int.add_zero] at hq hq2
    exact ⟨hq, by rw [if_pos rfl]; exact hq2, trivial⟩
  | [x], m, m0, hP, hn, hl, hq, hq2, ⟨h1, h2, h3⟩ => by
    have := hz x
    have e : lsz sz [x] = sz x := by rw [lsz_cons, lsz_nil, Int.add_zero]
    have e0 : lsz sz [x].dropLast = 0 := rfl
    rw [e] at hP hq hq2
    rw [e0] at hP
    have hl := hl (by simp)
    rw [e, e0, Int.add_zero] at hl
    exact ⟨hP m x (by omega) (by omega) (by omega) h1, by rw [if_neg (by simp)]; exact hl, hq, by rw [if_pos rfl]; exact hq2, trivial⟩
  | x :: y :: l, m, m0, hP, hn, hl, hq, hq2, ⟨h1, h2, h3⟩ => by
    have := hz x
    have ny := lsz_nn hz (y :: l)
    have ez : lsz sz (x :: y :: l) = sz x + lsz sz (y :: l) := lsz_cons _ _ _
    have ed : lsz sz (x :: y :: l).dropLast = sz x + lsz sz (y :: l).dropLast := by rw [List.dropLast_cons_of_ne_nil (by simp), lsz_cons]
    have hd := lsz_nn hz (y :: l).dropLast
    rw [ez] at hP hn hq hq2
    rw [ed] at hn hP
    have hl := hl (by simp)
    rw [ez, ed] at hl
    refine ⟨hP m x (by omega) (by omega) (by omega) h1, ?_, ?_⟩
    · rw [if_neg (by simp), hn m.toNat (by omega) (by omega) (by omega), h2, if_neg (by simp)]
    · refine pch_snoc hz (y :: l) (m + sz x) (by omega) (fun k z a b d => hP k z (by omega) (by omega) (by omega)) (fun i a b d => hn i (by omega) (by omega) (by omega)) (fun _ => ?_) (by rw [Int.add_assoc]; exact hq) (by rw [Int.add_assoc]; exact hq2) h3
      rw [Int.add_assoc, Int.add_assoc]
      exact hl
/-- node n and those behind it stand for the type at t -/
def NdS (A : Nat → Nat → Int) (c : Int → Int) : Nat → Int → Int → Prop
  | 0, n, t => lfN A c n t ∧ c t ≠ 65 ∧ c t ≠ 85 ∧ c t ≠ 82
  | D + 1, n, t => lfN A c n t ∧ (c t = 65 → A 18 n.toNat = n + 1 ∧ NdS A c D (n + 1) (t + 1))
    ∧ (c t = 85 → A 18 n.toNat = n + 1 ∧ A 20 n.toNat = (spPt c (D + 1) t).length ∧ (∃ l, spPt c (D + 1) t = (t + 2) :: l) ∧ pch (A 19) (spN c D) (fun m x => c x ≠ 85 ∧ NdS A c D m x) (n + 1) (spPt c (D + 1) t))
    ∧ (c t = 82 → A 18 n.toNat = n + 1 ∧ A 20 n.toNat = (spPt c (D + 1) t).length ∧ (∃ l, spPt c (D + 1) t = (t + 2) :: l) ∧ pch (A 19) (fun x => spN c D (x + 2)) (fun m x => A 21 m.toNat = c x ∧ A 24 m.toNat = spGv c D x ∧ NdS A c D m (x + 2)) (n + 1) (spPt c (D + 1) t))
theorem NdS_lf {A : Nat → Nat → Int} {c : Int → Int} : ∀ {D : Nat} {n t : Int}, NdS A c D n t → lfN A c n t
  | 0, _, _, h => h.1
  | _ + 1, _, _, h => h.1
/-- the nodes of the type alone count; the next, the name and the default of the first don't -/
theorem NdS_fr {A A' : Nat → Nat → Int} {c : Int → Int} : ∀ (D : Nat) (n t : Int), (∀ k, k = 17 ∨ k = 18 ∨ k = 20 ∨ k = 22 ∨ k = 23 → ∀ i : Nat, n ≤ i → (i : Int) < n + spN c D t → A' k i = A k i) → (∀ k, k = 19 ∨ k = 21 ∨ k = 24 → ∀ i : Nat, n < i → (i : Int) < n + spN c D t → A' k i = A k i) → NdS A c D n t → NdS A' c D n t := by
  have lf : ∀ (n t z : Int), 1 ≤ z → (∀ k, k = 17 ∨ k = 18 ∨ k = 20 ∨ k = 22 ∨ k = 23 → ∀ i : Nat, n ≤ i → (i : Int) < n + z → A' k i = A k i) → lfN A c n t → lfN A' c n t := fun n t z hz h L => by
    obtain ⟨l1, l2, l3, l4, l5⟩ := L
    refine ⟨l1, l2, l3, by rw [h 17 (by omega) n.toNat (by omega) (by omega)]; exact l4, fun y => ?_⟩
    obtain ⟨e1, e2, e3, e4⟩ := l5 y
    exact ⟨by rw [h 22 (by omega) n.toNat (by omega) (by omega)]; exact e1, by rw [h 20 (by omega) n.toNat (by omega) (by omega)]; exact e2, by rw [h 23 (by omega) n.toNat (by omega) (by omega)]; exact e3, e4⟩
  intro D
  induction D with
  | zero =>
    intro n t h1 h2 N
    exact ⟨lf n t 1 (Int.le_refl _) h1 N.1, N.2⟩
  | succ D ih =>
    intro n t h1 h2 N
    have z1 := spN_1 c (D + 1) t
    obtain ⟨L, N1, N2, N3⟩ := N
    have L0 := L.1
    refine ⟨lf n t _ z1 h1 L, fun y => ?_, fun y => ?_, fun y => ?_⟩
    · have e : spN c (D + 1) t = 1 + spN c D (t + 1) := by rw [spN_s, if_pos y]
      obtain ⟨a1, a2⟩ := N1 y
      exact ⟨by rw [h1 18 (by omega) n.toNat (by omega) (by omega)]; exact a1, ih (n + 1) (t + 1) (fun k hk i a b => h1 k hk i (by omega) (by omega)) (fun k hk i a b => h2 k hk i (by omega) (by omega)) a2⟩
    · have e : spN c (D + 1) t = 1 + lsz (spN c D) (spPt c (D + 1) t) := by rw [spN_s, if_neg (by omega), if_pos y]
      obtain ⟨a1, a2, a3, a4⟩ := N2 y
      refine ⟨by rw [h1 18 (by omega) n.toNat (by omega) (by omega)]; exact a1, by rw [h1 20 (by omega) n.toNat (by omega) (by omega)]; exact a2, a3, pch_of (spN_1 c D) _ _ (by omega) (fun k x q1 q2 z => ⟨z.1, ih k x (fun j hj i b1 b2 => h1 j hj i (by omega) (by omega)) (fun j hj i b1 b2 => h2 j hj i (by omega) (by omega)) z.2⟩) (fun i b1 b2 => h2 19 (by omega) i (by omega) (by omega)) a4⟩
    · have e : spN c (D + 1) t = 1 + lsz (fun x => spN c D (x + 2)) (spPt c (D + 1) t) := by rw [spN_s, if_neg (by omega), if_neg (by omega), if_pos y]
      obtain ⟨a1, a2, a3, a4⟩ := N3 y
      refine ⟨by rw [h1 18 (by omega) n.toNat (by omega) (by omega)]; exact a1, by rw [h1 20 (by omega) n.toNat (by omega) (by omega)]; exact a2, a3, pch_of (fun x => spN_1 c D (x + 2)) _ _ (by omega) (fun k x q1 q2 z => ?_) (fun i b1 b2 => h2 19 (by omega) i (by omega) (by omega)) a4⟩
      have := spN_1 c D (x + 2)
      exact ⟨by rw [h2 21 (by omega) k.toNat (by omega) (by omega)]; exact z.1, by rw [h2 24 (by omega) k.toNat (by omega) (by omega)]; exact z.2.1, ih k (x + 2) (fun j hj i b1 b2 => h1 j hj i (by omega) (by omega)) (fun j hj i b1 b2 => h2 j hj i (by omega) (by omega)) z.2.2⟩
theorem pch_nd {nx : Nat → Int} {sz : Int → Int} (hz : ∀ x, 1 ≤ sz x) {P P' : Int → Int → Prop} : ∀ (l : List Int) (m : Int), 0 ≤ m → m + lsz sz l ≤ 240 → (∀ k x, 0 ≤ k → k + sz x ≤ 240 → P k x → P' k x) → l ≠ [] → pch nx sz P m l → ndCh nx P' m l
  | [], _, _, _, _, h, _ => absurd rfl h
  | [x], m, m0, hm, hP, _, ⟨h1, h2, _⟩ => by
    have := hz x
    rw [lsz_cons, lsz_nil] at hm
    rw [if_pos rfl] at h2
    exact ⟨m0, by omega, hP m x m0 (by omega) h1, h2⟩
  | x :: y :: l, m, m0, hm, hP, _, ⟨h1, h2, h3⟩ => by
    have := hz x
    have ny := lsz_nn hz (y :: l)
    rw [lsz_cons] at hm
    rw [if_neg (by simp)] at h2
    refine ⟨m0, by omega, hP m x m0 (by omega) h1, ?_⟩
    rw [h2]
    exact pch_nd hz (y :: l) (m + sz x) (by omega) (by omega) hP (by simp) h3
theorem NdS_Nd {A : Nat → Nat → Int} {c : Int → Int} : ∀ (D : Nat) (n t : Int), n + spN c D t ≤ 240 → NdS A c D n t → Nd A c D n t
  | 0, _, _, _, h => h
  | D + 1, n, t, hn, ⟨L, N1, N2, N3⟩ => by
    have L0 := L.1
    refine ⟨L, fun y => ?_, fun y => ?_, fun y => ?_⟩
    · have e : spN c (D + 1) t = 1 + spN c D (t + 1) := by rw [spN_s, if_pos y]
      obtain ⟨a1, a2⟩ := N1 y
      rw [a1]
      exact NdS_Nd D _ _ (by omega) a2
    · have e : spN c (D + 1) t = 1 + lsz (spN c D) (spPt c (D + 1) t) := by rw [spN_s, if_neg (by omega), if_pos y]
      obtain ⟨a1, a2, a3, a4⟩ := N2 y
      rw [a1]
      refine ⟨a2, a3, pch_nd (spN_1 c D) _ _ (by omega) (by omega) (fun k x q1 q2 z => ⟨z.1, NdS_Nd D _ _ (by omega) z.2⟩) ?_ a4⟩
      obtain ⟨l, e2⟩ := a3
      rw [e2]; simp
    · have e : spN c (D + 1) t = 1 + lsz (fun x => spN c D (x + 2)) (spPt c (D + 1) t) := by rw [spN_s, if_neg (by omega), if_neg (by omega), if_pos y]
      obtain ⟨a1, a2, a3, a4⟩ := N3 y
      rw [a1]
      refine ⟨a2, a3, pch_nd (sz := fun x => spN c D (x + 2)) (fun x => spN_1 c D (x + 2)) _ _ (by omega) (by omega) (fun k x q1 q2 z => ⟨z.1, z.2.1, NdS_Nd D _ _ (by omega) z.2.2⟩) ?_ a4⟩
      obtain ⟨l, e2⟩ := a3
      rw [e2]; simp
