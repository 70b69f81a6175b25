/-- the walk over a literal: 0: stands before the places of U -/
def wk (c : Int → Int) (U : List Int) : Nat → Int → List Int
  | 0, _ => []
  | n + 1, q => (if q ∈ U then [48, 58] else []) ++ c q :: wk c U n (q + 1)
theorem wk_s (c : Int → Int) (U : List Int) (n : Nat) (q : Int) : wk c U (n + 1) q = (if q ∈ U then [48, 58] else []) ++ c q :: wk c U n (q + 1) := rfl
theorem wk_app {c : Int → Int} {U : List Int} : ∀ (n m : Nat) (q : Int), wk c U (n + m) q = wk c U n q ++ wk c U m (q + n)
  | 0, m, q => by rw [Nat.zero_add, show q + ((0 : Nat) : Int) = q by omega]; rfl
  | n + 1, m, q => by
    rw [show n + 1 + m = (n + m) + 1 by omega, wk_s, wk_s, wk_app n m (q + 1), show q + 1 + (n : Int) = q + ((n + 1 : Nat) : Int) by omega, List.append_assoc, List.cons_append]
theorem wk_cg {c : Int → Int} {U V : List Int} : ∀ (n : Nat) (q : Int), (∀ i : Int, q ≤ i → i < q + n → (i ∈ U ↔ i ∈ V)) → wk c U n q = wk c V n q
  | 0, q, _ => rfl
  | n + 1, q, h => by
    rw [wk_s, wk_s, wk_cg n (q + 1) (fun i h1 h2 => h i (by omega) (by omega))]
    have := h q (by omega) (by omega)
    by_cases z : q ∈ U
    · rw [if_pos z, if_pos (this.mp z)]
    · rw [if_neg z, if_neg (fun y => z (this.mpr y))]
theorem wk_ch {c : Int → Int} : ∀ (n : Nat) (q : Int), wk c [] n q = spCh c q n
  | 0, q => rfl
  | n + 1, q => by rw [wk_s, wk_ch n (q + 1), if_neg (List.not_mem_nil)]; rfl
theorem wk_3 {c : Int → Int} {A B : List Int} {q p e : Int} (h1 : q ≤ p) (h2 : p + 1 ≤ e) (hA : ∀ u ∈ A, q ≤ u ∧ u < p) (hB : ∀ u ∈ B, p + 1 ≤ u) : wk c (A ++ B) (e - q).toNat q = wk c A (p - q).toNat q ++ c p :: wk c B (e - (p + 1)).toNat (p + 1) := by
  rw [show (e - q).toNat = (p - q).toNat + ((e - (p + 1)).toNat + 1) by omega, wk_app, wk_s, show q + (((p - q).toNat : Nat) : Int) = p by omega, if_neg (fun z => by
    rcases List.mem_append.mp z with z | z
    · have := hA p z; omega
    · have := hB p z; omega), wk_cg (U := A ++ B) (V := A) (p - q).toNat q (fun i i1 i2 => ⟨fun z => (List.mem_append.mp z).elim id (fun y => by have := hB i y; omega), fun z => List.mem_append.mpr (Or.inl z)⟩), wk_cg (U := A ++ B) (V := B) (e - (p + 1)).toNat (p + 1) (fun i i1 i2 => ⟨fun z => (List.mem_append.mp z).elim (fun y => by have := hA i y; omega) id, fun z => List.mem_append.mpr (Or.inr z)⟩)]
  rfl
theorem wk_El {c f : Int → Int} {g go : Int → List Int} (hg : ∀ q, 0 ≤ q → 0 ≤ f q → q < f q ∧ (∀ u ∈ g q, q ≤ u ∧ u < f q) ∧ go q = wk c (g q) (f q - q).toNat q) : ∀ (k : Nat) (q : Int), 0 ≤ q → 0 ≤ spEl c f k q → q < spEl c f k q ∧ (∀ u ∈ spElA c f g k q, q ≤ u ∧ u < spEl c f k q) ∧ spElO 2 c f go k q ++ [93] = wk c (spElA c f g k q) (spEl c f k q - q).toNat q
  | 0, q, q0, h => absurd (show 0 ≤ -1 - q from h) (by omega)
  | k + 1, q, q0, h => by
    have eA : spElA c f g (k + 1) q = g q ++ (if c (f q) = 93 then [] else spElA c f g k (f q + 1)) := rfl
    have eO : spElO 2 c f go (k + 1) q = go q ++ (if c (f q) = 93 then [] else [44] ++ spElO 2 c f go k (f q + 1)) := rfl
    rw [spEl_s] at h ⊢
    rw [eA, eO]
    by_cases c1 : f q < 0
    · rw [if_pos c1] at h; omega
    · rw [if_neg c1] at h ⊢
      obtain ⟨g1, g2, g3⟩ := hg q q0 (by omega)
      by_cases c2 : c (f q) = 93
      · rw [if_pos c2, if_pos c2, if_pos c2, wk_3 (p := f q) (by omega) (by omega) g2 (fun u hu => absurd hu (List.not_mem_nil)), ← g3, c2, show (f q + 1 - (f q + 1)).toNat = 0 by omega, List.append_nil]
        exact ⟨by omega, fun u hu => by have := g2 u hu; omega, by rw [List.append_nil]; rfl⟩
      · rw [if_neg c2] at h ⊢
        rw [if_neg c2, if_neg c2]
        by_cases c3 : k = 0 ∨ c (f q) ≠ 44
        · rw [if_pos c3] at h; omega
        · rw [if_neg c3] at h ⊢
          obtain ⟨i1, i2, i3⟩ := wk_El hg k (f q + 1) (by omega) h
          have c4 : c (f q) = 44 := Decidable.byContradiction fun z => c3 (Or.inr z)
          rw [wk_3 (p := f q) (by omega) (by omega) g2 (fun u hu => by have := i2 u hu; omega), ← g3, c4, ← i3]
          refine ⟨by omega, fun u hu => ?_, by rw [List.append_assoc, List.append_assoc]; rfl⟩
          rcases List.mem_append.mp hu with z | z
          · have := g2 u z; omega
          · have := i2 u z; omega
theorem wk_Fs {c : Int → Int} {f : Int → Int → Int} {g go : Int → Int → List Int} : ∀ (l : List Int) (q : Int), (∀ x ∈ l, ∀ q : Int, 0 ≤ q → 0 ≤ f (x + 2) q → q < f (x + 2) q ∧ (∀ u ∈ g (x + 2) q, q ≤ u ∧ u < f (x + 2) q) ∧ go (x + 2) q = wk c (g (x + 2) q) (f (x + 2) q - q).toNat q) → 0 ≤ q → 0 ≤ spFs c f l q → q < spFs c f l q ∧ (∀ u ∈ spFsA f g l q, q ≤ u ∧ u < spFs c f l q) ∧ spFsO 2 f go l q ++ [125] = wk c (spFsA f g l q) (spFs c f l q - q).toNat q
  | [], q, _, q0, h => absurd (show 0 ≤ -1 - q from h) (by omega)
  | [x], q, hg, q0, h => by
    have eV : spFs c f [x] q = if f (x + 2) q < 0 then f (x + 2) q else if c (f (x + 2) q) = 125 then f (x + 2) q + 1 else -1 - f (x + 2) q := rfl
    have eA : spFsA f g [x] q = g (x + 2) q := rfl
    have eO : spFsO 2 f go [x] q = go (x + 2) q := rfl
    rw [eV] at h ⊢
    rw [eA, eO]
    by_cases c1 : f (x + 2) q < 0
    · rw [if_pos c1] at h; omega
    · rw [if_neg c1] at h ⊢
      obtain ⟨g1, g2, g3⟩ := hg x List.mem_cons_self q q0 (by omega)
      by_cases c2 : c (f (x + 2) q) = 125
      · have w3 := wk_3 (c := c) (B := []) (e := f (x + 2) q + 1) (p := f (x + 2) q) (by omega) (by omega) g2 (fun u hu => absurd hu (List.not_mem_nil))
        rw [← g3, c2, show (f (x + 2) q + 1 - (f (x + 2) q + 1)).toNat = 0 by omega, List.append_nil] at w3
        rw [if_pos c2, w3]
        exact ⟨by omega, fun u hu => by have := g2 u hu; omega, rfl⟩
      · rw [if_neg c2] at h; omega
  | x :: y :: l, q, hg, q0, h => by
    have eV : spFs c f (x :: y :: l) q = if f (x + 2) q < 0 then f (x + 2) q else if c (f (x + 2) q) = 44 then spFs c f (y :: l) (f (x + 2) q + 1) else -1 - f (x + 2) q := rfl
    have eA : spFsA f g (x :: y :: l) q = g (x + 2) q ++ spFsA f g (y :: l) (f (x + 2) q + 1) := rfl
    have eO : spFsO 2 f go (x :: y :: l) q = go (x + 2) q ++ ([44] ++ spFsO 2 f go (y :: l) (f (x + 2) q + 1)) := rfl
    rw [eV] at h ⊢
    rw [eA, eO]
    by_cases c1 : f (x + 2) q < 0
    · rw [if_pos c1] at h; omega
    · rw [if_neg c1] at h ⊢
      obtain ⟨g1, g2, g3⟩ := hg x List.mem_cons_self q q0 (by omega)
      by_cases c2 : c (f (x + 2) q) = 44
      · rw [if_pos c2] at h ⊢
        obtain ⟨i1, i2, i3⟩ := wk_Fs (y :: l) (f (x + 2) q + 1) (fun z hz => hg z (List.mem_cons_of_mem _ hz)) (by omega) h
        rw [wk_3 (p := f (x + 2) q) (by omega) (by omega) g2 (fun u hu => by have := i2 u hu; omega), ← g3, c2, ← i3]
        refine ⟨by omega, fun u hu => ?_, by rw [List.append_assoc, List.append_assoc]; rfl⟩
        rcases List.mem_append.mp hu with z | z
        · have := g2 u z; omega
        · have := i2 u z; omega
      · rw [if_neg c2] at h; omega
theorem wk_hd {c : Int → Int} {B : List Int} {q e : Int} (h : q + 1 ≤ e) (hB : ∀ u ∈ B, q + 1 ≤ u) : wk c B (e - q).toNat q = c q :: wk c B (e - (q + 1)).toNat (q + 1) := by
  have := wk_3 (c := c) (A := []) (B := B) (q := q) (p := q) (e := e) (by omega) h (fun u hu => absurd hu (List.not_mem_nil)) hB
  rw [List.nil_append, show (q - q).toNat = 0 by omega] at this
  exact this
/-- what a default says is its text, with 0: before each U -/
theorem wk_all {N : Int} {c : Int → Int} (hN : 0 ≤ N) (hc : ∀ p, N ≤ p → c p = 0) : ∀ (D : Nat) (t q : Int), 0 ≤ t → 0 ≤ spTy c D t → 0 ≤ q → 0 ≤ spVal c c false D t q → q < spVal c c false D t q ∧ (∀ u ∈ spU c c false D t q, q ≤ u ∧ u < spVal c c false D t q ∧ (c t ≠ 85 → q < u)) ∧ spO 2 c c false D t q = wk c (spU c c false D t q) (spVal c c false D t q - q).toNat q
  | 0, t, q, t0, hT, q0, h => by
    refine ⟨(spVal_gt' hc 0 t q q0 h hN).1, fun u hu => absurd hu (List.not_mem_nil), ?_⟩
    show spLo 2 c c t q = wk c [] (spLf c c t q - q).toNat q
    rw [wk_ch]
    rfl
  | D + 1, t, q, t0, hT, q0, h => by
    have gt := (spVal_gt' hc (D + 1) t q q0 h hN).1
    refine ⟨gt, ?_⟩
    rw [spVal_s] at h gt ⊢
    rw [spU_s, spO_s]
    unfold spV1 at h gt ⊢
    unfold spU1 spO1
    by_cases cA : c t = 65
    · rw [if_pos cA] at h gt ⊢
      rw [if_pos cA, if_pos cA]
      rw [spTy_A cA] at hT
      by_cases c1 : c q = 91
      · rw [if_pos c1] at h gt ⊢
        by_cases c2 : c (q + 1) = 93
        · rw [if_pos c2] at h gt ⊢
          rw [if_pos c2, if_pos c2, if_neg (by decide), if_pos rfl, wk_hd (by omega) (fun u hu => absurd hu (List.not_mem_nil)), wk_hd (by omega) (fun u hu => absurd hu (List.not_mem_nil)), c1, c2, show (q + 2 - (q + 1 + 1)).toNat = 0 by omega]
          exact ⟨fun u hu => absurd hu (List.not_mem_nil), rfl⟩
        · rw [if_neg c2] at h gt ⊢
          rw [if_neg c2, if_neg c2, if_neg (by decide), if_pos rfl, if_neg (by decide), if_pos rfl]
          obtain ⟨i1, i2, i3⟩ := wk_El (g := spU c c false D (t + 1)) (go := spO 2 c c false D (t + 1)) (fun p p0 hp => by
            obtain ⟨j1, j2, j3⟩ := wk_all hN hc D (t + 1) p (by omega) hT p0 hp
            exact ⟨j1, fun u hu => ⟨(j2 u hu).1, (j2 u hu).2.1⟩, j3⟩) 3 (q + 1) (by omega) h
          have e3 : (if false = true then (20 : Nat) else 3) = 3 := rfl
          have m3 : mst false = 3 := rfl
          rw [m3]
          refine ⟨fun u hu => by have := i2 u hu; exact ⟨by omega, by exact this.2, fun _ => by omega⟩, ?_⟩
          rw [wk_hd (Int.le_of_lt i1) (fun u hu => (i2 u hu).1), c1]
          exact congrArg (List.cons 91) i3
      · rw [if_neg c1] at h; omega
    · rw [if_neg cA] at h gt ⊢
      rw [if_neg cA, if_neg cA]
      by_cases cU : c t = 85
      · rw [if_pos cU] at h gt ⊢
        rw [if_pos cU, if_pos cU, if_neg (by decide), if_pos rfl]
        rw [if_neg (by decide)] at h gt ⊢
        rw [if_neg (by decide)]
        obtain ⟨⟨k, p1⟩, p2, p3⟩ := spPt_U hc t0 hT cU
        obtain ⟨u1, u2, u3, u4⟩ := p3 (t + 2) (by rw [p1]; exact List.mem_cons_self)
        obtain ⟨j1, j2, j3⟩ := wk_all hN hc D (t + 2) q (by omega) u2 q0 h
        refine ⟨fun u hu => ?_, ?_⟩
        · rcases List.mem_cons.mp hu with z | z
          · exact ⟨by omega, by omega, fun y => absurd cU y⟩
          · have := j2 u z; exact ⟨by omega, by omega, fun y => absurd cU y⟩
        · rw [j3, if_pos (show (2 : Int) = 2 from rfl)]
          rw [show (spVal c c false D (t + 2) q - q).toNat = (spVal c c false D (t + 2) q - q - 1).toNat + 1 by omega, wk_s, wk_s, if_pos List.mem_cons_self, if_neg (show ¬ q ∈ spU c c false D (t + 2) q from fun z => by have := (j2 q z).2.2 u3; omega), wk_cg (U := q :: spU c c false D (t + 2) q) (V := spU c c false D (t + 2) q) _ (q + 1) (fun i h1 h2 => ⟨fun z => (List.mem_cons.mp z).elim (fun y => by omega) id, fun z => List.mem_cons_of_mem _ z⟩)]
          rfl
      · rw [if_neg cU] at h gt ⊢
        rw [if_neg cU, if_neg cU]
        by_cases cR : c t = 82
        · rw [if_pos cR] at h gt ⊢
          rw [if_pos cR, if_pos cR, if_pos rfl, if_pos rfl]
          by_cases c1 : c q = 123
          · rw [if_pos c1] at h gt ⊢
            obtain ⟨p1, p2, p3⟩ := spPt_R hN hc t0 hT cR
            obtain ⟨i1, i2, i3⟩ := wk_Fs (c := c) (f := spVal c c false D) (g := spU c c false D) (go := spO 2 c c false D) (spPt c (D + 1) t) (q + 1) (fun x hx p p0 hp => by
              obtain ⟨u1, u2, -⟩ := p3 x hx
              obtain ⟨j1, j2, j3⟩ := wk_all hN hc D (x + 2) p (by omega) u2 p0 hp
              exact ⟨j1, fun u hu => ⟨(j2 u hu).1, (j2 u hu).2.1⟩, j3⟩) (by omega) h
            refine ⟨fun u hu => by have := i2 u hu; exact ⟨by omega, by omega, fun _ => by omega⟩, ?_⟩
            rw [wk_hd (by omega) (fun u hu => (i2 u hu).1), c1, ← i3]
            rfl
          · rw [if_neg c1] at h; omega
        · rw [if_neg cR] at h gt ⊢
          rw [if_neg cR, if_neg cR, wk_ch]
          exact ⟨fun u hu => absurd hu (List.not_mem_nil), rfl⟩
theorem Sa_un {m : Nat} {h : ax_Hp} {sc l : Nat} {c : Int → Int} {fe fn fu : Nat → Int} (S : schA h sc l c fe fn fu) {i : Int} (i0 : 0 ≤ i) (i1 : i < l) (hu : fu i.toNat = 0 ∨ fu i.toNat = 1) : ax_F (m + 1) 140 [ax_A (some sc), ax_I (Int32.ofInt i)] h = some (.inl (some (ax_I (Int32.ofInt (fu i.toNat)))), h) := by
  obtain ⟨tr, ti, e, nx, u, n8, ci, fc, s1, s2, s3, s4, s5, s6, s7, s8, s9, s10, s11⟩ := S
  rw [Schema_isMarkedUnion_F]
  unfold Schema_isMarkedUnion_b
  rw [if_neg (show ¬ Int32.ofInt i < 0 from zi_n0 i0 (by omega)), pl_gr s1 (v := some u) rfl, Option.bind_some, pl_len s6, arL_len, Option.bind_some, if_neg (show ¬ Int32.ofNat n8 ≤ Int32.ofInt i from by rw [show Int32.ofNat n8 = Int32.ofInt n8 from (Int32.ofInt_eq_ofNat).symm, zi_le (by omega) (by omega) (by omega) (by omega)]; omega), Option.bind_some, za_ld s6 i0 (by omega) (by omega), Option.bind_some]
  rcases hu with z | z
  · rw [z, if_neg (by decide)]
    exact za_rz (v := 0) (Or.inl rfl)
  · rw [z, if_pos (show Int32.ofInt 1 = 1 from rfl)]
    exact za_rz (v := 1) (Or.inr rfl)
section RDX
variable {g : ax_Hp} {rv cu sr sw sd dr di N lw lr : Nat} {w r b : Int → Int} {we wn wu re rn ru f0 : Nat → Int} {q : Int} {x : Int64} {fs : Nat → Int} {a0 a1 : Int}
theorem Rv_defL {m : Nat} {U : List Int} {e : Int} (X : rvX g rv cu sr sw sd dr di N lw lr w r b we wn wu re rn ru) (he : e ≤ lr) : ∀ (n : Nat) (p : Int) (L : List Int) (fuel : Nat), 0 ≤ p → p + n = e → (∀ i : Nat, p ≤ i → (i : Int) < e → ru i = if (i : Int) ∈ U then 1 else 0) → L.length ≤ 400 → n < fuel → rsR g cu sr sw N dr di f0 (Resolver_addDefault_lp18 (ax_F (m + 2)) fuel (some rv) (Int32.ofInt e) (Int32.ofInt p) (dH g cu sr sw N dr di f0 q x L fs)) (some (wk r U n p)) q L fs a0 a1
  | 0, p, L, fuel, p0, hp, hu, hL, hf => by
    obtain ⟨fuel, rfl⟩ : ∃ g, fuel = g + 1 := ⟨fuel - 1, by omega⟩
    have hstep : Resolver_addDefault_lp18 (ax_F (m + 2)) (fuel + 1) = Resolver_addDefault_bd18 (ax_F (m + 2)) (Resolver_addDefault_lp18 (ax_F (m + 2)) fuel) := rfl
    rw [hstep]
    unfold Resolver_addDefault_bd18
    have l1 := (Sa_lt (verX_A (dH_R (f0 := f0) (q := q) (x := x) (L := L) (fs := fs) X))).1
    rw [if_pos (show Int32.ofInt e ≤ Int32.ofInt p from by rw [zi_le (by omega) (by omega) (by omega) (by omega)]; omega)]
    exact rsR_e hL
  | n + 1, p, L, fuel, p0, hp, hu, hL, hf => by
    obtain ⟨fuel, rfl⟩ : ∃ g, fuel = g + 1 := ⟨fuel - 1, by omega⟩
    have hstep : Resolver_addDefault_lp18 (ax_F (m + 2)) (fuel + 1) = Resolver_addDefault_bd18 (ax_F (m + 2)) (Resolver_addDefault_lp18 (ax_F (m + 2)) fuel) := rfl
    have VR := fun (L : List Int) => verX_A (dH_R (f0 := f0) (q := q) (x := x) (L := L) (fs := fs) X)
    have l1 := (Sa_lt (VR L)).1
    have hup := hu p.toNat (by omega) (by omega)
    rw [Int.toNat_of_nonneg p0] at hup
    rw [hstep, wk_s]
    unfold Resolver_addDefault_bd18
    rw [if_neg (show ¬ Int32.ofInt e ≤ Int32.ofInt p from by rw [zi_le (by omega) (by omega) (by omega) (by omega)]; omega), dH_3 X, Option.bind_some, Sa_on (VR L), pl_ci (Sa_un (VR L) p0 (by omega) (by rw [hup]; split <;> omega)), hup]
    have last : ∀ (L : List Int), L.length ≤ 400 → rsR g cu sr sw N dr di f0 ((ax_gr (dH g cu sr sw N dr di f0 q x L fs) (some rv) 1 4).bind fun v7 => (ax_gr (dH g cu sr sw N dr di f0 q x L fs) (some rv) 1 3).bind fun v8 => ax_on (dH g cu sr sw N dr di f0 q x L fs) v8 3 <| ax_ci (ax_F (m + 2) 81 [ax_A v8, ax_I (Int32.ofInt p)] (dH g cu sr sw N dr di f0 q x L fs)) fun v10 h9 => ax_on h9 v7 2 <| ax_ci (ax_F (m + 2) 8 [ax_A v7, ax_I v10] h9) fun v12 h11 => if v12 = 0 then ax_rz 0 h11 else Resolver_addDefault_lp18 (ax_F (m + 2)) fuel (some rv) (Int32.ofInt e) (Int32.ofInt p + 1) h11) (some (r p :: wk r U n (p + 1))) q L fs a0 a1 := fun L hL => by
      rw [dH_4 X, Option.bind_some, dH_3 X, Option.bind_some, Sa_on (VR L), pl_ci (Sa_at (VR L) (by omega) (by omega)), atC_in p0 (by omega), dH_dron]
      refine rsR_p (m := m + 1) (y := r p) (o := some (wk r U n (p + 1))) X hL (fun hL' => ?_)
      rw [show (1 : Int32) = Int32.ofInt 1 from rfl, zi_add]
      exact Rv_defL X he n (p + 1) (L ++ [r p]) fuel (by omega) (by omega) (fun i h1 h2 => hu i (by omega) h2) hL' (by omega)
    by_cases c : p ∈ U
    · rw [if_pos c, if_neg (show ¬ Int32.ofInt 1 = 0 from by decide), if_pos c, dH_4 X, Option.bind_some, dH_dron]
      refine rsR_p (m := m + 1) (y := 48) (o := some ([58] ++ (r p :: wk r U n (p + 1)))) X hL (fun hL' => ?_)
      rw [dH_4 X, Option.bind_some, dH_dron]
      refine rsR_p (m := m + 1) (y := 58) (o := some (r p :: wk r U n (p + 1))) X hL' (fun hL'' => ?_)
      exact last _ hL''
    · rw [if_neg c, if_pos (show Int32.ofInt 0 = 0 from rfl), if_neg c]
      exact last _ hL
/-- the class says the default of the reader's field y -/
theorem Rv_def {m D : Nat} {y : Int} {L : List Int} (X : rvX g rv cu sr sw sd dr di N lw lr w r b we wn wu re rn ru) (y0 : 0 ≤ y) (hT : 0 ≤ spTy r D (y + 2)) (hF : 0 ≤ spFe r (spTy r D) (spVal r r false D) y) (hM : MkD re ru r D y) (hL : L.length ≤ 400) : rsR g cu sr sw N dr di f0 (ax_F (m + 3) 139 [ax_A (some rv), ax_I (Int32.ofInt (spGv r D y))] (dH g cu sr sw N dr di f0 q x L fs)) (rxD r D y) q L fs a0 a1 := by
  have VR := verX_A (dH_R (f0 := f0) (q := q) (x := x) (L := L) (fs := fs) X)
  obtain ⟨l1, l2, l3, l4⟩ := Sa_lt VR
  have tg := spTy_gt l2 D (y + 2) (by omega) hT
  rw [Resolver_addDefault_F]
  unfold Resolver_addDefault_b rxD
  by_cases c : r (spTy r D (y + 2)) = 61
  · have ev : spGv r D y = spTy r D (y + 2) + 1 := if_pos c
    obtain ⟨m1, m2⟩ := hM c
    rw [spFe_n c] at hF
    have gt := spVal_gt' l2 D (y + 2) (spTy r D (y + 2) + 1) (by omega) hF (by omega)
    have l5 := l4 _ (show r (spTy r D (y + 2)) ≠ 0 by omega)
    obtain ⟨k1, k2, k3⟩ := wk_all (by omega) l2 D (y + 2) (spTy r D (y + 2) + 1) (by omega) hT (by omega) hF
    rw [ev, if_neg (show ¬ Int32.ofInt (spTy r D (y + 2) + 1) = -1 from by rw [show (-1 : Int32) = Int32.ofInt (-1) from rfl, zi_eq (by omega) (by omega) (by omega) (by omega)]; omega), if_neg (show ¬ spTy r D (y + 2) + 1 = -1 by omega), dH_3 X, Option.bind_some, Sa_on VR, pl_ci (Sa_end VR (by omega) (by have := gt.2 (by omega); omega)), m1, k3]
    exact Rv_defL X (gt.2 (by omega)) _ (spTy r D (y + 2) + 1) L ax_fuel (by omega) (by omega) m2 hL (by have := gt.2 (by omega); unfold ax_fuel; omega)
  · have ev : spGv r D y = -1 := if_neg c
    rw [ev, if_pos (show Int32.ofInt (-1) = -1 from rfl), if_pos rfl]
    exact rsR_f rfl hL (fun _ _ => rfl)
end RDX
