/-- the list goes up, and each part ends before the next one -/
def srt (T : Int → Int) : List Int → Prop
  | [] => True
  | x :: l => (∀ z ∈ l, T x ≤ z ∧ x < z) ∧ srt T l
theorem spFl_srt {c ty : Int → Int} {lt : Int → Int → Int} (ht : ∀ p, 0 ≤ p → 0 ≤ ty p → p < ty p) (hl : ∀ t p, 0 ≤ p → 0 ≤ lt t p → p < lt t p) : ∀ (k : Nat) (seen : List Int) (q : Int), 0 ≤ q → 0 ≤ spFd c ty lt k seen q → srt (fun x => ty (x + 2)) (spFl c ty lt k q)
  | 0, _, q, q0, hb => absurd (show 0 ≤ -1 - q from hb) (by omega)
  | k + 1, seen, q, q0, hb => by
    rw [spFd_s] at hb
    by_cases c1 : ¬ isSm (c q) ∨ c q ∈ seen
    · rw [if_pos c1] at hb; omega
    · rw [if_neg c1] at hb
      by_cases c0 : c (q + 1) ≠ 58
      · rw [if_pos c0] at hb; omega
      · rw [if_neg c0] at hb
        by_cases c2 : ty (q + 2) < 0
        · rw [if_pos c2] at hb; omega
        · rw [if_neg c2] at hb
          by_cases c5 : spFe c ty lt q < 0
          · rw [if_pos c5] at hb; omega
          · rw [if_neg c5] at hb
            have g := ht (q + 2) (by omega) (by omega)
            have ge : ty (q + 2) ≤ spFe c ty lt q := by
              unfold spFe at c5 ⊢
              by_cases z : c (ty (q + 2)) = 61
              · rw [if_pos z] at c5 ⊢
                have := hl (q + 2) (ty (q + 2) + 1) (by omega) (by omega)
                omega
              · rw [if_neg z] at c5 ⊢; omega
            rw [spFl_s]
            by_cases c3 : c (spFe c ty lt q) = 41
            · rw [if_neg (by omega)]
              exact ⟨fun z hz => absurd hz (List.not_mem_nil), trivial⟩
            · rw [if_neg c3] at hb
              by_cases c4 : k = 0 ∨ c (spFe c ty lt q) ≠ 44
              · rw [if_pos c4] at hb; omega
              · rw [if_neg c4] at hb
                rw [if_pos (by omega)]
                have ih := spFl_srt ht hl k (c q :: seen) (spFe c ty lt q + 1) (by omega) hb
                refine ⟨fun z hz => ?_, ih⟩
                have := spFl_in ht hl k (c q :: seen) (spFe c ty lt q + 1) (by omega) hb z hz
                show ty (q + 2) ≤ z ∧ q < z
                omega
theorem spPt_srt {N : Int} {c : Int → Int} {D : Nat} {t : Int} (hN : 0 ≤ N) (hc : ∀ p, N ≤ p → c p = 0) (t0 : 0 ≤ t) (h : 0 ≤ spTy c (D + 1) t) (hR : c t = 82) : srt (fun x => spTy c D (x + 2)) (spPt c (D + 1) t) := by
  obtain ⟨a, b, e⟩ := spTy_R1 t0 h hR
  rw [e]
  rw [b] at h
  exact spFl_srt (fun p p0 hp => (spTy_gt hc D p p0 hp).1) (fun t p p0 hp => (spVal_gt' hc D t p p0 hp hN).1) 6 [] (t + 2) (by omega) h
theorem srt_sep {T : Int → Int} : ∀ (l : List Int), srt T l → ∀ y ∈ l, ∀ z ∈ l, z ≤ y ∨ T y ≤ z
  | [], _, y, hy, z, hz => absurd hy (List.not_mem_nil)
  | x :: l, h, y, hy, z, hz => by
    rcases List.mem_cons.mp hy with e1 | hy1
    · rcases List.mem_cons.mp hz with e2 | hz1
      · exact Or.inl (by omega)
      · have := (h.1 z hz1).1; rw [← e1] at this; exact Or.inr this
    · rcases List.mem_cons.mp hz with e2 | hz1
      · have := (h.1 y hy1).2; exact Or.inl (by omega)
      · exact srt_sep l h.2 y hy1 z hz1
/-- the starts of the fields, noted one after the other -/
def nts (f : Int → Int → Int) : List Int → Int → (Nat → Int) → Nat → Int
  | [], _, fs => fs
  | x :: l, q, fs => nts f l (f (x + 2) q) (fun i => if i = x.toNat then q else fs i)
theorem nts_o {f : Int → Int → Int} {i : Nat} : ∀ (l : List Int) (q : Int) (fs : Nat → Int), (∀ y ∈ l, i ≠ y.toNat) → nts f l q fs i = fs i
  | [], q, fs, _ => rfl
  | x :: l, q, fs, h => by
    show nts f l (f (x + 2) q) (fun i => if i = x.toNat then q else fs i) i = fs i
    rw [nts_o l _ _ (fun y hy => h y (List.mem_cons_of_mem _ hy)), if_neg (h x List.mem_cons_self)]
theorem nts_at {T : Int → Int} {f : Int → Int → Int} : ∀ (l : List Int) (q : Int) (fs : Nat → Int), srt T l → (∀ y ∈ l, 0 ≤ y) → ∀ y ∈ l, nts f l q fs y.toNat = spAt f y l q
  | [], q, fs, _, _, y, hy => absurd hy (List.not_mem_nil)
  | x :: l, q, fs, h, h0, y, hy => by
    show nts f l (f (x + 2) q) (fun i => if i = x.toNat then q else fs i) y.toNat = if x = y then q else spAt f y l (f (x + 2) q)
    have x0 := h0 x List.mem_cons_self
    by_cases c : x = y
    · subst c
      rw [if_pos rfl, nts_o l _ _ (fun z hz => by have := (h.1 z hz).2; omega), if_pos rfl]
    · rw [if_neg c]
      rcases List.mem_cons.mp hy with rfl | hy
      · exact absurd rfl c
      · exact nts_at l _ _ h.2 (fun z hz => h0 z (List.mem_cons_of_mem _ hz)) y hy
theorem spAt_ok {N : Nat} {f : Int → Int → Int} (hf : ∀ (t q : Int), 0 ≤ q → q ≤ N → sbd N q (f t q)) {y : Int} : ∀ (l : List Int) (q : Int), 0 ≤ q → q ≤ N → 0 ≤ spSf f l q → y ∈ l → 0 ≤ spAt f y l q ∧ spAt f y l q ≤ N ∧ 0 ≤ f (y + 2) (spAt f y l q)
  | [], q, q0, q1, h, hy => absurd hy (List.not_mem_nil)
  | x :: l, q, q0, q1, h, hy => by
    have es : spSf f (x :: l) q = if f (x + 2) q < 0 then f (x + 2) q else spSf f l (f (x + 2) q) := rfl
    have ea : spAt f y (x :: l) q = if x = y then q else spAt f y l (f (x + 2) q) := rfl
    rw [es] at h
    rw [ea]
    by_cases c1 : f (x + 2) q < 0
    · rw [if_pos c1] at h; omega
    · rw [if_neg c1] at h
      by_cases c : x = y
      · subst c
        rw [if_pos rfl]
        exact ⟨q0, q1, by omega⟩
      · rw [if_neg c]
        have := (hf (x + 2) q q0 q1).1 (by omega)
        rcases List.mem_cons.mp hy with rfl | hy
        · exact absurd rfl c
        · exact spAt_ok hf l _ (by omega) (by omega) h hy
/-- what comes behind the noting of the starts -/
def rvT (call : ax_Cf) (x0 : Option Nat) (x1 : Int32) (x2 : Int32) (x3 : Int32) (h : ax_Hp) : ax_O :=
  (ax_gr h x0 1 0).bind fun v4 =>
  ax_on h v4 0 <| ax_ci (call 27 [ax_A v4] h) fun v6 h5 =>
  (ax_gr h5 x0 1 4).bind fun v7 =>
  ax_on h5 v7 2 <| ax_ci (call 8 [ax_A v7, ax_I 123] h5) fun v9 h8 =>
  if v9 = 0 then
    ax_rz 0 h8
  else
    (ax_gr h8 x0 1 3).bind fun v10 =>
    ax_on h8 v10 3 <| ax_ci (call 60 [ax_A v10, ax_I x2] h8) fun v12 h11 =>
    Resolver_resolveFields_lp109 call ax_fuel x0 x1 x3 v6 v12 0 h11
section RFX
variable {g : ax_Hp} {rv cu sr sw sd dr di N lw lr : Nat} {w r b : Int → Int} {we wn wu re rn ru f0 : Nat → Int}
theorem Rv_ntL {K D2 : Nat} {t u dep : Int} {L : List Int} (X : rvX g rv cu sr sw sd dr di N lw lr w r b we wn wu re rn ru) (h2 : D2 ≤ 6) : ∀ (fl : List Int) (i : Nat) (q : Int) (x : Int64) (fs : Nat → Int) (fuel : Nat), i + fl.length ≤ 6 → (fl ≠ [] → nxC wn fl) → (∀ y ∈ fl, gdT lw w we wn wu D2 (y + 2) ∧ (0 ≤ y ∧ y < lw)) → 0 ≤ q → q ≤ N → 0 ≤ spSf (spSc w b D2) fl q → fl.length < fuel → ∃ x', Resolver_resolveFields_lp13 (ax_F (K + 41)) fuel (some rv) (Int32.ofInt u) (Int32.ofInt t) (Int32.ofInt dep) (Int32.ofInt (fl.getD 0 (-1))) (Int32.ofInt i) (dH g cu sr sw N dr di f0 q x L fs) = rvT (ax_F (K + 41)) (some rv) (Int32.ofInt u) (Int32.ofInt t) (Int32.ofInt dep) (dH g cu sr sw N dr di f0 (spSf (spSc w b D2) fl q) x' L (nts (spSc w b D2) fl q fs))
  | [], i, q, x, fs, fuel, hi, hn, hy, q0, q1, hS, hf => by
    obtain ⟨fuel, rfl⟩ : ∃ g, fuel = g + 1 := ⟨fuel - 1, by omega⟩
    have hstep : Resolver_resolveFields_lp13 (ax_F (K + 41)) (fuel + 1) = Resolver_resolveFields_bd13 (ax_F (K + 41)) (Resolver_resolveFields_lp13 (ax_F (K + 41)) fuel) := rfl
    refine ⟨x, ?_⟩
    rw [hstep]
    unfold Resolver_resolveFields_bd13
    by_cases c : (6 : Int32) ≤ Int32.ofInt i
    · rw [if_pos c]
      rfl
    · rw [if_neg c, if_pos (show Int32.ofInt (([] : List Int).getD 0 (-1)) = -1 from rfl)]
      rfl
  | y :: fl, i, q, x, fs, fuel, hi, hn, hy, q0, q1, hS, hf => by
    obtain ⟨fuel, rfl⟩ : ∃ g, fuel = g + 1 := ⟨fuel - 1, by omega⟩
    have hstep : Resolver_resolveFields_lp13 (ax_F (K + 41)) (fuel + 1) = Resolver_resolveFields_bd13 (ax_F (K + 41)) (Resolver_resolveFields_lp13 (ax_F (K + 41)) fuel) := rfl
    rw [List.length_cons] at hi hf
    obtain ⟨gy, y0, y1⟩ := hy y List.mem_cons_self
    have B := X.2.2.2.2.2.2.2.2.2.2.2.1.2.2.2.2.2.1
    have VW := fun (q : Int) (x : Int64) (fs : Nat → Int) => verX_A (dH_W (f0 := f0) (q := q) (x := x) (L := L) (fs := fs) X)
    have l1 := (Sa_lt (VW q x fs)).1
    have es : spSf (spSc w b D2) (y :: fl) q = if spSc w b D2 (y + 2) q < 0 then spSc w b D2 (y + 2) q else spSf (spSc w b D2) fl (spSc w b D2 (y + 2) q) := rfl
    have en : nts (spSc w b D2) (y :: fl) q fs = nts (spSc w b D2) fl (spSc w b D2 (y + 2) q) (fun i => if i = y.toNat then q else fs i) := rfl
    by_cases c0 : spSc w b D2 (y + 2) q < 0
    · rw [es, if_pos c0] at hS; omega
    · rw [es, if_neg c0] at hS ⊢
      have bd := (spSc_b (c := w) B D2 (y + 2) q q0 q1).1 (by omega)
      obtain ⟨x1, sk⟩ := Rv_skip (f0 := f0) (q := q) (x := x) (L := L) (fs := fun i => if i = y.toNat then q else fs i) (D := D2) (m := K + 36 - 3 * D2) (t := y + 2) X h2 (by omega) gy.2.1 (MkB_N _ _ gy.2.2.2) q0 q1
      rw [show K + 36 - 3 * D2 + 3 * D2 + 5 = K + 41 by omega, if_pos (show 0 ≤ spSc w b D2 (y + 2) q by omega), if_pos (show 0 ≤ spSc w b D2 (y + 2) q by omega)] at sk
      obtain ⟨x', ih⟩ := Rv_ntL (K := K) (t := t) (u := u) (dep := dep) (L := L) X h2 fl (i + 1) (spSc w b D2 (y + 2) q) x1 (fun i => if i = y.toNat then q else fs i) fuel (by omega) (fun z => by
        cases fl with
        | nil => exact absurd rfl z
        | cons a l => exact (hn (by simp)).2) (fun z hz => hy z (List.mem_cons_of_mem _ hz)) (by omega) (by omega) hS (by omega)
      refine ⟨x', ?_⟩
      have hnx : wn y.toNat = fl.getD 0 (-1) := by
        cases fl with
        | nil => exact hn (by simp)
        | cons a l => exact (hn (by simp)).1
      rw [hstep, en, ← ih, show (y :: fl).getD 0 (-1) = y from rfl]
      unfold Resolver_resolveFields_bd13
      rw [if_neg (show ¬ (6 : Int32) ≤ Int32.ofInt i from by rw [show (6 : Int32) = Int32.ofInt 6 from rfl, zi_le (by omega) (by omega) (by omega) (by omega)]; omega), if_neg (show ¬ Int32.ofInt y = -1 from by rw [show (-1 : Int32) = Int32.ofInt (-1) from rfl, zi_eq (by omega) (by omega) (by omega) (by omega)]; omega), dH_on X, pl_ci (Rv_note X y0 (by omega)), if_neg (show ¬ Int32.ofInt 1 = 0 from by decide), dH_1 X, Option.bind_some, dH_2 X, Option.bind_some, Sa_on (VW _ _ _), pl_ci Sc_fty, dH_sron X, pl_ci sk, if_neg (show ¬ Int32.ofInt 1 = 0 from by decide), dH_2 X, Option.bind_some, Sa_on (VW _ _ _), pl_ci (Sa_next (VW _ _ _) y0 y1), hnx, show (1 : Int32) = Int32.ofInt 1 from rfl, zi_add, show (i : Int) + 1 = ((i + 1 : Nat) : Int) by omega]
/-- one of the reader's fields -/
theorem Rv_fd1 {K n D1 D2 : Nat} {y u dep q q0 a0 a1 : Int} {x : Int64} {L pt : List Int} {fs : Nat → Int} (X : rvX g rv cu sr sw sd dr di N lw lr w r b we wn wu re rn ru) (R : rvC g rv cu sr sw N dr di lw lr f0 w r b we wn wu re rn ru (K + 40) n) (hn : D1 + D2 + 1 ≤ n) (d0 : 0 ≤ dep) (d1 : dep + 1 + D1 + D2 ≤ 12) (h1 : D1 ≤ 6) (h2 : D2 ≤ 6) (hq0 : 0 ≤ q0) (hq1 : q0 ≤ N) (y0 : 0 ≤ y) (y1 : y < lr) (gy : gdT lr r re rn ru D1 (y + 2)) (my : MkD re ru r D1 y) (ey : 0 ≤ spFe r (spTy r D1) (spVal r r false D1) y) (p1 : ∃ k, pt = (u + 2) :: k) (p2 : pt.length ≤ 6) (p3 : nxC wn pt) (p4 : ∀ z ∈ pt, gdT lw w we wn wu D2 (z + 2) ∧ (0 ≤ z ∧ z < lw) ∧ a0 ≤ z + 2 ∧ spTy w D2 (z + 2) ≤ a1) (p5 : srt (fun z => spTy w D2 (z + 2)) pt) (hS : 0 ≤ spSf (spSc w b D2) pt q0) (hfs : ∀ z ∈ pt, fs z.toNat = spAt (spSc w b D2) z pt q0) (ha : a0 ≤ a1) (hL : L.length ≤ 400) : ∃ e c0 c1, a0 ≤ c0 ∧ c1 ≤ a1 ∧ (∀ z ∈ pt, z < c0 ∨ c1 ≤ z) ∧ rsR g cu sr sw N dr di f0 (ax_F (K + 41) 138 [ax_A (some rv), ax_I (Int32.ofInt u), ax_I (Int32.ofInt y), ax_I (Int32.ofInt dep)] (dH g cu sr sw N dr di f0 q x L fs)) (if fnd w (r y) pt = -1 then rxD r D1 y else rsv r w b n D1 D2 (y + 2) (fnd w (r y) pt + 2) (spAt (spSc w b D2) (fnd w (r y) pt) pt q0)) e L fs c0 c1 := by
  have B := X.2.2.2.2.2.2.2.2.2.2.2.1.2.2.2.2.2.1
  have VW := fun (q : Int) => verX_A (dH_W (f0 := f0) (q := q) (x := x) (L := L) (fs := fs) X)
  have VR := fun (q : Int) => verX_A (dH_R (f0 := f0) (q := q) (x := x) (L := L) (fs := fs) X)
  have lwl := (Sa_lt (VW q)).1
  obtain ⟨lr1, lr2, lr3, lr4⟩ := Sa_lt (VR q)
  have rb := lr3 y
  rw [Resolver_resolveField_F]
  unfold Resolver_resolveField_b
  rw [dH_2 X, Option.bind_some, dH_3 X, Option.bind_some, Sa_on (VR q), pl_ci (Sa_at (VR q) (by omega) (by omega)), atC_in y0 y1, Sa_on (VW q), pl_ci (Sa_fn (VW q) (by omega) (by omega) p1 p2 p3 (fun z hz => (p4 z hz).2.1))]
  rcases fnd_in (c := w) (y := r y) pt with z | ⟨z, z'⟩
  · refine ⟨q, a0, a0, by omega, by omega, fun z _ => by omega, ?_⟩
    rw [if_pos z, if_pos (show Int32.ofInt (fnd w (r y) pt) = -1 from by rw [z]; rfl), dH_3 X, Option.bind_some, Sa_on (VR q), pl_ci (Sa_fd (VR q) y0 gy.2.1 gy.2.2.1), dH_on X]
    exact rsR_z (Rv_def (m := K + 37) X y0 gy.2.1 ey my hL)
  · obtain ⟨g1, g2, g3, g4⟩ := p4 _ z
    have ok := spAt_ok (y := fnd w (r y) pt) (fun t q => spSc_b (c := w) B D2 t q) pt q0 hq0 hq1 hS z
    refine ⟨spSc w b D2 (fnd w (r y) pt + 2) (spAt (spSc w b D2) (fnd w (r y) pt) pt q0), fnd w (r y) pt + 2, spTy w D2 (fnd w (r y) pt + 2), g3, g4, fun v hv => ?_, ?_⟩
    · have := srt_sep pt p5 _ z v hv
      rcases this with h | h
      · exact Or.inl (by omega)
      · exact Or.inr h
    · rw [if_neg (show ¬ fnd w (r y) pt = -1 by omega), if_neg (show ¬ Int32.ofInt (fnd w (r y) pt) = -1 from by rw [show (-1 : Int32) = Int32.ofInt (-1) from rfl, zi_eq (by omega) (by omega) (by omega) (by omega)]; omega), if_neg (show ¬ Int32.ofInt (fnd w (r y) pt) < 0 from zi_n0 (by omega) (by omega)), dH_5 X, Option.bind_some, pl_len (dH_fs X), arL_len, Option.bind_some, if_pos (show Int32.ofInt (fnd w (r y) pt) < Int32.ofNat 160 from by rw [show Int32.ofNat 160 = Int32.ofInt 160 from rfl, zi_lt (by omega) (by omega) (by omega) (by omega)]; omega), dH_0 X, Option.bind_some, Option.bind_some, za_ld (dH_fs X) (by omega) (by omega) (by omega), Option.bind_some, dH_cuon X, hfs _ z, pl_cv (Rv_mov X), dH_2 X, Option.bind_some, Sa_on (VW _), pl_ci Sc_fty, dH_3 X, Option.bind_some, Sa_on (VR _), pl_ci Sc_fty, dH_on X, show (1 : Int32) = Int32.ofInt 1 from rfl, zi_add]
      exact rsR_z (R D1 D2 (y + 2) (fnd w (r y) pt + 2) (dep + 1) _ x L fs hn (by omega) (by omega) h1 h2 gy g1 ok.1 ok.2.1 ok.2.2 hL)
theorem Rv_fdL {K n D1 D2 : Nat} {u dep q0 be a0 a1 : Int} {pt : List Int} (X : rvX g rv cu sr sw sd dr di N lw lr w r b we wn wu re rn ru) (R : rvC g rv cu sr sw N dr di lw lr f0 w r b we wn wu re rn ru (K + 40) n) (hn : D1 + D2 + 1 ≤ n) (d0 : 0 ≤ dep) (d1 : dep + 1 + D1 + D2 ≤ 12) (h1 : D1 ≤ 6) (h2 : D2 ≤ 6) (hq0 : 0 ≤ q0) (hq1 : q0 ≤ N) (p1 : ∃ k, pt = (u + 2) :: k) (p2 : pt.length ≤ 6) (p3 : nxC wn pt) (p4 : ∀ z ∈ pt, gdT lw w we wn wu D2 (z + 2) ∧ (0 ≤ z ∧ z < lw) ∧ a0 ≤ z + 2 ∧ spTy w D2 (z + 2) ≤ a1) (p5 : srt (fun z => spTy w D2 (z + 2)) pt) (hS : 0 ≤ spSf (spSc w b D2) pt q0) (ha : a0 ≤ a1) : ∀ (fl : List Int) (i : Nat) (q : Int) (x : Int64) (L : List Int) (fs : Nat → Int) (fuel : Nat), fl ≠ [] → i + fl.length ≤ 6 → nxC rn fl → (∀ y ∈ fl, gdT lr r re rn ru D1 (y + 2) ∧ (0 ≤ y ∧ y < lr) ∧ isSm (r y) ∧ MkD re ru r D1 y ∧ 0 ≤ spFe r (spTy r D1) (spVal r r false D1) y) → (∀ z ∈ pt, fs z.toNat = spAt (spSc w b D2) z pt q0) → L.length ≤ 400 → fl.length < fuel → rsR g cu sr sw N dr di f0 (Resolver_resolveFields_lp109 (ax_F (K + 41)) fuel (some rv) (Int32.ofInt u) (Int32.ofInt dep) (Int32.ofInt be) (Int32.ofInt (fl.getD 0 0)) (Int32.ofInt i) (dH g cu sr sw N dr di f0 q x L fs)) (rxF (fun y => if fnd w (r y) pt = -1 then rxD r D1 y else rsv r w b n D1 D2 (y + 2) (fnd w (r y) pt + 2) (spAt (spSc w b D2) (fnd w (r y) pt) pt q0)) fl) be L fs a0 a1
  | [], i, q, x, L, fs, fuel, hne, hi, hnx, hy, hfs, hL, hf => absurd rfl hne
  | y :: fl, i, q, x, L, fs, fuel, hne, hi, hnx, hy, hfs, hL, hf => by
    obtain ⟨fuel, rfl⟩ : ∃ g, fuel = g + 1 := ⟨fuel - 1, by omega⟩
    have hstep : Resolver_resolveFields_lp109 (ax_F (K + 41)) (fuel + 1) = Resolver_resolveFields_bd109 (ax_F (K + 41)) (Resolver_resolveFields_lp109 (ax_F (K + 41)) fuel) := rfl
    rw [List.length_cons] at hi hf
    obtain ⟨gy, ⟨y0, y1⟩, y2, y3, y4⟩ := hy y List.mem_cons_self
    obtain ⟨e, c0, c1, e1, e2, e3, E⟩ := Rv_fd1 (q := q) (x := x) X R hn d0 d1 h1 h2 hq0 hq1 y0 y1 gy y3 y4 p1 p2 p3 p4 p5 hS hfs ha hL
    rw [hstep, show (y :: fl).getD 0 0 = y from rfl]
    unfold Resolver_resolveFields_bd109
    rw [if_neg (show ¬ (6 : Int32) ≤ Int32.ofInt i from by rw [show (6 : Int32) = Int32.ofInt 6 from rfl, zi_le (by omega) (by omega) (by omega) (by omega)]; omega), dH_on X]
    cases fl with
    | nil =>
      have hn1 : rn y.toNat = -1 := hnx
      refine rsR_w (o2 := some [125]) E e1 e2 (fun x' k fs' hk hL' hf' => ?_)
      have VR := verX_A (dH_R (f0 := f0) (q := e) (x := x') (L := L ++ k) (fs := fs') X)
      rw [dH_3 X, Option.bind_some, Sa_on VR, pl_ci (Sa_next VR y0 y1), hn1, if_pos (show Int32.ofInt (-1) = -1 from rfl), dH_0 X, Option.bind_some, dH_cuon X, pl_cv (Rv_mov X), dH_4 X, Option.bind_some, dH_dron]
      exact rsR_z (rsR_a (m := K + 40) (y := 125) X hL')
    | cons z fl =>
      have hn1 : rn y.toNat = z := hnx.1
      obtain ⟨gz, ⟨z0, z1⟩, -⟩ := hy z (by simp)
      refine rsR_w (o2 := cat2 (some [44]) (rxF _ (z :: fl))) E e1 e2 (fun x' k fs' hk hL' hf' => ?_)
      have VR := verX_A (dH_R (f0 := f0) (q := e) (x := x') (L := L ++ k) (fs := fs') X)
      have lr1 := (Sa_lt VR).1
      rw [dH_3 X, Option.bind_some, Sa_on VR, pl_ci (Sa_next VR y0 y1), hn1, if_neg (show ¬ Int32.ofInt z = -1 from by rw [show (-1 : Int32) = Int32.ofInt (-1) from rfl, zi_eq (by omega) (by omega) (by omega) (by omega)]; omega), dH_4 X, Option.bind_some, dH_dron]
      refine rsR_p (m := K + 40) (y := 44) X hL' (fun hL'' => ?_)
      rw [show (1 : Int32) = Int32.ofInt 1 from rfl, zi_add, show (i : Int) + 1 = ((i + 1 : Nat) : Int) by omega]
      have ih := Rv_fdL (be := be) X R hn d0 d1 h1 h2 hq0 hq1 p1 p2 p3 p4 p5 hS ha (z :: fl) (i + 1) e x' (L ++ k ++ [44]) fs' fuel (by simp) (by omega) hnx.2 (fun v hv => hy v (List.mem_cons_of_mem _ hv)) (fun v hv => by
        rw [hf' v.toNat (by have := e3 v hv; have := (p4 v hv).2.1; omega), hfs v hv]) hL'' (by omega)
      exact ih
end RFX
