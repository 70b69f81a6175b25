/-- the class skips a value of level D as the text says -/
def skP (g : ax_Hp) (cu sr sc N : Nat) (c b : Int → Int) (fn : Nat → Int) (n D : Nat) : Prop := ∀ (q t dep : Int) (x : Int64), 0 ≤ dep → dep + D ≤ 6 → 0 ≤ t → 0 ≤ spTy c D t → MkN fn c D t → 0 ≤ q → q ≤ N → stR g cu sr sc N (ax_F n 111 [ax_A (some sr), ax_I (Int32.ofInt t), ax_I (Int32.ofInt dep)] (sH g cu sr sc N q x)) (spSc c b D t q)
theorem stR_i {g : ax_Hp} {cu sr sc N : Nat} {q : Int} {x : Int64} {F : ax_O} {p : Prop} [Decidable p] (h : F = some (.inl (some (ax_I (Int32.ofInt (if p then 1 else 0)))), sH g cu sr sc N (if p then q + 1 else q) x)) (q0 : 0 ≤ q) : stR g cu sr sc N F (if p then q + 1 else -1 - q) := by
  refine ⟨x, h.trans ?_⟩
  by_cases c : p
  · rw [if_pos c, if_pos c, if_pos c, if_pos (by omega), if_pos (by omega)]
  · rw [if_neg c, if_neg c, if_neg c, if_neg (by omega), if_neg (by omega), show -1 - (-1 - q) = q by omega]
theorem stR_rz {g : ax_Hp} {cu sr sc N : Nat} {F : ax_O} {e : Int} {k : Int32 → ax_Hp → ax_O} (h : stR g cu sr sc N F e) (hk : ∀ v H, k v H = ax_rz v H) : stR g cu sr sc N (ax_ci F k) e := by
  obtain ⟨x', h⟩ := h
  refine ⟨x', ?_⟩
  rw [pl_ci h, hk]
  exact za_rz rz_b
section SKP
variable {g : ax_Hp} {cu sr sc N l : Nat} {c b : Int → Int} {fe fn fu : Nat → Int}
theorem Sk_dis {m : Nat} {q t dep : Int} {x : Int64} (X : stX g cu sr sc N b) (V : verX g sc l c fe fn fu) (d0 : 0 ≤ dep) (d1 : dep ≤ 6) (t0 : 0 ≤ t) (tl : t < l) : ∀ k : Int32 → ax_Hp → ax_O, (ax_gr (sH g cu sr sc N q x) (some sr) 5 1).bind (fun v1 => ax_on (sH g cu sr sc N q x) v1 3 <| ax_ci (ax_F (m + 2) 44 [ax_A v1, ax_I (Int32.ofInt t)] (sH g cu sr sc N q x)) k) = k (Int32.ofInt (c t)) (sH g cu sr sc N q x) := fun k => by
  have A := verX_A (sH_V (q := q) (x := x) X V)
  have l1 := (Sa_lt A).1
  rw [sH_gr1, Option.bind_some, Sa_on A, pl_ci (Sa_kind A (by omega) (by omega)), atC_in t0 tl]
theorem Sk_leaf {m : Nat} {q t dep : Int} {x : Int64} (X : stX g cu sr sc N b) (V : verX g sc l c fe fn fu) (d0 : 0 ≤ dep) (d1 : dep ≤ 6) (t0 : 0 ≤ t) (hc : isPl (c t) ∨ (c t = 69 ∧ 0 ≤ spE c t)) (q0 : 0 ≤ q) (q1 : q ≤ N) : stR g cu sr sc N (ax_F (m + 4) 111 [ax_A (some sr), ax_I (Int32.ofInt t), ax_I (Int32.ofInt dep)] (sH g cu sr sc N q x)) (spSl c b t q) := by
  have A := verX_A (sH_V (q := q) (x := x) X V)
  obtain ⟨l1, l2, l3, l4⟩ := Sa_lt A
  have n64 := X.2.2.2.2.1
  have tl := l4 t (by omega)
  have ct := l3 t
  rw [StreamReader_skip_F]
  unfold StreamReader_skip_b
  rw [if_pos (show Int32.ofInt dep ≤ 6 from by rw [show (6 : Int32) = Int32.ofInt 6 from rfl, zi_le (by omega) (by omega) (by omega) (by omega)]; exact d1), Sk_dis (m := m + 1) X V d0 d1 t0 tl]
  unfold spSl
  have ek : (Int32.ofInt (c t)).toInt = c t := zi_toInt (by omega) (by omega)
  rcases hc with (h | h | h | h | h) | ⟨h, hE⟩
  · rw [h] at ek ⊢
    simp only [ek, Int.reduceEq, ↓reduceIte]
    refine ⟨x, ?_⟩
    rw [if_pos q0, if_pos q0]
    exact za_rz (v := 1) (Or.inr rfl)
  · rw [h] at ek ⊢
    simp only [ek, Int.reduceEq, ↓reduceIte]
    rw [sH_sron]
    exact stR_rz (stR_i (Sr_bool X q0 q1) q0) (fun _ _ => rfl)
  · rw [h] at ek ⊢
    simp only [ek, Int.reduceEq, ↓reduceIte]
    rw [sH_sron]
    refine stR_rz ⟨_, (show ax_F (m + 3) 113 [ax_A (some sr), ax_I 32] (sH g cu sr sc N q x) = _ from Sr_num (m := m + 1) (lg := false) X q0 q1)⟩ (fun _ _ => rfl)
  · rw [h] at ek ⊢
    simp only [ek, Int.reduceEq, ↓reduceIte]
    rw [sH_sron]
    refine stR_rz ⟨_, (show ax_F (m + 3) 113 [ax_A (some sr), ax_I 64] (sH g cu sr sc N q x) = _ from Sr_num (m := m + 1) (lg := true) X q0 q1)⟩ (fun _ _ => rfl)
  · rw [h] at ek ⊢
    simp only [ek, Int.reduceEq, ↓reduceIte]
    rw [sH_sron]
    exact stR_rz (Sr_str X q0 q1) (fun _ _ => rfl)
  · have k8 := (spSy_k (c := c) (p := t + 2) 8 0).2.1
    rw [h] at ek ⊢
    simp only [ek, Int.reduceEq, ↓reduceIte]
    rw [sH_gr1, Option.bind_some, Sa_on A, pl_ci (Sa_sc A t0 (by omega) hE), sH_sron, show (1 : Int32) = Int32.ofInt 1 from rfl, zi_sub]
    have cn := Sr_cnt (m := m + 1) (x := x) (mo := (spSy c (t + 2) 8 0 : Int) - 1) X q0 (by omega) (by omega) (by omega)
    rw [show (spSy c (t + 2) 8 0 : Int) - 1 + 1 = spSy c (t + 2) 8 0 by omega] at cn
    unfold spHf
    exact stR_rz (stR_i cn q0) (fun _ _ => rfl)
theorem seE_z {f : Int → Int} {q : Int} (h : f q = q) (q0 : 0 ≤ q) : ∀ k : Nat, seE f k q = q
  | 0 => rfl
  | k + 1 => by
    show (if f q < 0 then f q else seE f k (f q)) = q
    rw [h, if_neg (by omega), seE_z h q0 k]
theorem Sk_prtL {n D : Nat} {t dep bf : Int} {cnt : Nat} (X : stX g cu sr sc N b) (R : skP g cu sr sc N c b fn n D) (d0 : 0 ≤ dep) (d1 : dep + 1 + D ≤ 6) (t0 : 0 ≤ t) (hT : 0 ≤ spTy c D t) (hM : MkN fn c D t) (h20 : cnt ≤ 20) (b0 : 0 ≤ bf) : ∀ (k i fuel : Nat) (q : Int) (x : Int64), i + k = cnt → (bf < q ∨ bf = q) → q ≤ N → k < fuel → stR g cu sr sc N (StreamReader_skipPart_lp12 (ax_F (n)) fuel (some sr) (Int32.ofInt t) (Int32.ofInt cnt) (Int32.ofInt dep) (Int32.ofInt bf) (Int32.ofInt i) (sH g cu sr sc N q x)) (seE (spSc c b D t) k q)
  | 0, i, fuel, q, x, hi, hq, q1, hf => by
    obtain ⟨fuel, rfl⟩ : ∃ g, fuel = g + 1 := ⟨fuel - 1, by omega⟩
    have hstep : StreamReader_skipPart_lp12 (ax_F n) (fuel + 1) = StreamReader_skipPart_bd12 (ax_F n) (StreamReader_skipPart_lp12 (ax_F n) fuel) := rfl
    refine ⟨x, ?_⟩
    rw [hstep, show seE (spSc c b D t) 0 q = q from rfl, if_pos (by omega), if_pos (by omega)]
    unfold StreamReader_skipPart_bd12
    rw [if_pos (show Int32.ofInt cnt ≤ Int32.ofInt i from by rw [zi_le (by omega) (by omega) (by omega) (by omega)]; omega)]
    exact za_rz (v := 1) (Or.inr rfl)
  | k + 1, i, fuel, q, x, hi, hq, q1, hf => by
    obtain ⟨fuel, rfl⟩ : ∃ g, fuel = g + 1 := ⟨fuel - 1, by omega⟩
    have hstep : StreamReader_skipPart_lp12 (ax_F n) (fuel + 1) = StreamReader_skipPart_bd12 (ax_F n) (StreamReader_skipPart_lp12 (ax_F n) fuel) := rfl
    have n64 := X.2.2.2.2.1
    have B := spSc_b (c := c) X.2.2.2.2.2.1 D t q (by omega) q1
    obtain ⟨x', r⟩ := R q t (dep + 1) x (by omega) (by omega) t0 hT hM (by omega) q1
    rw [hstep]
    unfold StreamReader_skipPart_bd12
    rw [if_neg (show ¬ Int32.ofInt cnt ≤ Int32.ofInt i from by rw [zi_le (by omega) (by omega) (by omega) (by omega)]; omega), sH_sron, show (1 : Int32) = Int32.ofInt 1 from rfl, zi_add, zi_add, pl_ci r, show seE (spSc c b D t) (k + 1) q = if spSc c b D t q < 0 then spSc c b D t q else seE (spSc c b D t) k (spSc c b D t q) from rfl]
    by_cases c1 : 0 ≤ spSc c b D t q
    · have b1 := B.1 c1
      have at' : ax_F n 27 [ax_A (some cu)] (sH g cu sr sc N (spSc c b D t q) x') = some (.inl (some (ax_I (Int32.ofInt (spSc c b D t q)))), sH g cu sr sc N (spSc c b D t q) x') := by
        cases n with
        | zero => exact absurd r (by show ¬ (none : ax_O) = _; exact fun w => nomatch w)
        | succ n => exact St_at X.1
      rw [if_pos c1, if_pos c1, if_neg (show ¬ Int32.ofInt 1 = 0 from by decide), if_neg (show ¬ spSc c b D t q < 0 by omega), sH_gr0, Option.bind_some, sH_cuon X.1, pl_ci at']
      by_cases c2 : spSc c b D t q = bf
      · have e : q = bf := by omega
        rw [if_pos (by rw [c2])]
        have sz : seE (spSc c b D t) k (spSc c b D t q) = spSc c b D t q := seE_z (by rw [c2, ← e]; omega) c1 k
        rw [sz]
        refine ⟨x', ?_⟩
        rw [if_pos c1, if_pos c1]
        exact za_rz (v := 1) (Or.inr rfl)
      · rw [if_neg (show ¬ Int32.ofInt (spSc c b D t q) = Int32.ofInt bf from by rw [zi_eq (by omega) (by omega) (by omega) (by omega)]; exact c2), show (i : Int) + 1 = ((i + 1 : Nat) : Int) by omega]
        exact Sk_prtL X R d0 d1 t0 hT hM h20 b0 k (i + 1) fuel (spSc c b D t q) x' (by omega) (by omega) (by omega) (by omega)
    · rw [if_neg c1, if_neg c1, if_pos (show Int32.ofInt 0 = 0 from rfl), if_pos (show spSc c b D t q < 0 by omega)]
      refine ⟨x', ?_⟩
      rw [if_neg c1, if_neg c1]
      exact za_rz (v := 0) (Or.inl rfl)
theorem Sk_prt {n D : Nat} {q t dep : Int} {x : Int64} {cnt : Nat} (X : stX g cu sr sc N b) (R : skP g cu sr sc N c b fn (n + 1) D) (d0 : 0 ≤ dep) (d1 : dep + 1 + D ≤ 6) (t0 : 0 ≤ t) (hT : 0 ≤ spTy c D t) (hM : MkN fn c D t) (h20 : cnt ≤ 20) (q0 : 0 ≤ q) (q1 : q ≤ N) : stR g cu sr sc N (ax_F (n + 2) 118 [ax_A (some sr), ax_I (Int32.ofInt t), ax_I (Int32.ofInt cnt), ax_I (Int32.ofInt dep)] (sH g cu sr sc N q x)) (seE (spSc c b D t) cnt q) := by
  rw [StreamReader_skipPart_F]
  unfold StreamReader_skipPart_b
  rw [sH_gr0, Option.bind_some, sH_cuon X.1, pl_ci (St_at X.1)]
  exact Sk_prtL X R d0 d1 t0 hT hM h20 q0 cnt 0 ax_fuel q x (by omega) (Or.inr rfl) q1 (by unfold ax_fuel; omega)
theorem Sk_elsL {n D : Nat} {t dep : Int} (X : stX g cu sr sc N b) (V : verX g sc l c fe fn fu) (R : skP g cu sr sc N c b fn (n + 1) D) (d0 : 0 ≤ dep) (d1 : dep + 1 + D ≤ 6) (t0 : 0 ≤ t) (hT : 0 ≤ spTy c D (t + 1)) (hM : MkN fn c D (t + 1)) : ∀ (p left pt fuel : Nat) (q : Int) (x : Int64), p + pt = 21 → left ≤ 20 → 0 ≤ q → q ≤ N → p < fuel → stR g cu sr sc N (StreamReader_skipElements_lp6 (ax_F (n + 2)) fuel (some sr) (Int32.ofInt t) (Int32.ofInt dep) (Int32.ofInt left) (Int32.ofInt pt) (sH g cu sr sc N q x)) (spSa b (spSc c b D (t + 1)) p left q)
  | 0, left, pt, fuel, q, x, hp, hl, q0, q1, hf => by
    obtain ⟨fuel, rfl⟩ : ∃ g, fuel = g + 1 := ⟨fuel - 1, by omega⟩
    have hstep : StreamReader_skipElements_lp6 (ax_F (n + 2)) (fuel + 1) = StreamReader_skipElements_bd6 (ax_F (n + 2)) (StreamReader_skipElements_lp6 (ax_F (n + 2)) fuel) := rfl
    refine ⟨x, ?_⟩
    rw [hstep, show spSa b (spSc c b D (t + 1)) 0 left q = -1 - q from rfl, if_neg (by omega), if_neg (by omega), show -1 - (-1 - q) = q by omega]
    unfold StreamReader_skipElements_bd6
    rw [if_pos (show (20 : Int32) < Int32.ofInt pt from by rw [show (20 : Int32) = Int32.ofInt 20 from rfl, zi_lt (by omega) (by omega) (by omega) (by omega)]; omega)]
    exact za_rz (v := 0) (Or.inl rfl)
  | p + 1, left, pt, fuel, q, x, hp, hl, q0, q1, hf => by
    obtain ⟨fuel, rfl⟩ : ∃ g, fuel = g + 1 := ⟨fuel - 1, by omega⟩
    have hstep : StreamReader_skipElements_lp6 (ax_F (n + 2)) (fuel + 1) = StreamReader_skipElements_bd6 (ax_F (n + 2)) (StreamReader_skipElements_lp6 (ax_F (n + 2)) fuel) := rfl
    have n64 := X.2.2.2.2.1
    have bb := bSt_b X.2.2.2.2.2.1 q0
    have A := fun q x => verX_A (sH_V (q := q) (x := x) X V)
    rw [hstep]
    unfold StreamReader_skipElements_bd6
    rw [if_neg (show ¬ (20 : Int32) < Int32.ofInt pt from by rw [show (20 : Int32) = Int32.ofInt 20 from rfl, zi_lt (by omega) (by omega) (by omega) (by omega)]; omega), sH_sron, pl_ci (Sr_cnt (m := n) X q0 (by omega) (by omega) (by omega)), show spSa b (spSc c b D (t + 1)) (p + 1) left q = if hfO b (left + 1) q then (if b q = 0 then q + 1 else if seE (spSc c b D (t + 1)) (b q / 2).toNat (q + 1) < 0 then seE (spSc c b D (t + 1)) (b q / 2).toNat (q + 1) else spSa b (spSc c b D (t + 1)) p (left - (b q / 2).toNat) (seE (spSc c b D (t + 1)) (b q / 2).toNat (q + 1))) else -1 - q from rfl]
    by_cases c1 : hfO b (left + 1) q
    · have lt := bb.2.2.1 c1.1
      obtain ⟨h1, h2, h3⟩ := c1
      have c1 : hfO b (left + 1) q := ⟨h1, h2, h3⟩
      have e32 : (Int64.ofInt (b q / 2)).toInt32 = Int32.ofInt ((b q / 2).toNat : Nat) := by
        have := zb_32 (b q / 2).toNat (by omega)
        rw [show (((b q / 2).toNat : Nat) : Int) = b q / 2 by omega] at this ⊢
        exact this
      rw [if_pos c1, if_pos c1, if_pos c1, if_pos c1, if_neg (show ¬ Int32.ofInt 1 = 0 from by decide), sH_gl2, Option.bind_some, e32]
      by_cases c2 : b q = 0
      · rw [if_pos (show Int32.ofInt ((b q / 2).toNat : Nat) = 0 from by rw [c2]; rfl), if_pos c2]
        refine ⟨Int64.ofInt (b q / 2), ?_⟩
        rw [if_pos (by omega), if_pos (by omega)]
        exact za_rz (v := 1) (Or.inr rfl)
      · have sb := seE_b (N := N) (f := spSc c b D (t + 1)) (fun q a d => spSc_b X.2.2.2.2.2.1 D (t + 1) q a d) (b q / 2).toNat (q + 1) (by omega) (by omega)
        obtain ⟨x', r⟩ := Sk_prt (n := n) (x := Int64.ofInt (b q / 2)) (cnt := (b q / 2).toNat) X R d0 d1 (show 0 ≤ t + 1 by omega) hT hM (by omega) (show 0 ≤ q + 1 by omega) (by omega)
        rw [if_neg (show ¬ Int32.ofInt ((b q / 2).toNat : Nat) = 0 from by rw [zi_0, zi_eq (by omega) (by omega) (by omega) (by omega)]; omega), if_neg c2, sH_gr1, Option.bind_some, Sa_on (A _ _), pl_ci Sc_el, sH_sron, pl_ci r]
        generalize hse : seE (spSc c b D (t + 1)) (b q / 2).toNat (q + 1) = se at *
        by_cases c3 : 0 ≤ se
        · have s1 := sb.1 c3
          rw [if_pos c3, if_pos c3, if_neg (show ¬ Int32.ofInt 1 = 0 from by decide), if_neg (show ¬ se < 0 by omega), show (1 : Int32) = Int32.ofInt 1 from rfl, zi_sub, zi_add, show (left : Int) - ((b q / 2).toNat : Nat) = ((left - (b q / 2).toNat : Nat) : Int) by omega, show (pt : Int) + 1 = ((pt + 1 : Nat) : Int) by omega]
          exact Sk_elsL X V R d0 d1 t0 hT hM p (left - (b q / 2).toNat) (pt + 1) fuel se x' (by omega) (by omega) (by omega) (by omega) (by omega)
        · rw [if_neg c3, if_neg c3, if_pos (show Int32.ofInt 0 = 0 from rfl), if_pos (show se < 0 by omega)]
          refine ⟨x', ?_⟩
          rw [if_neg c3, if_neg c3]
          exact za_rz (v := 0) (Or.inl rfl)
    · rw [if_neg c1, if_neg c1, if_neg c1, if_neg c1, if_pos (show Int32.ofInt 0 = 0 from rfl)]
      refine ⟨x, ?_⟩
      rw [if_neg (by omega), if_neg (by omega), show -1 - (-1 - q) = q by omega]
      exact za_rz (v := 0) (Or.inl rfl)
/-- the class reads the number of a branch -/
theorem Sk_rb {n : Nat} {q t : Int} {x : Int64} {fl : List Int} (X : stX g cu sr sc N b) (V : verX g sc l c fe fn fu) (hf : ∃ k, fl = (t + 2) :: k) (h4 : fl.length ≤ 4) (hn : nxC fn fl) (hy : ∀ y ∈ fl, 0 ≤ y ∧ y < l) (q0 : 0 ≤ q) (q1 : q ≤ N) : ax_F (n + 3) 120 [ax_A (some sr), ax_I (Int32.ofInt t)] (sH g cu sr sc N q x) = some (.inl (some (ax_I (Int32.ofInt (if hfO b fl.length q then fl.getD (b q / 2).toNat 0 else -1)))), sH g cu sr sc N (if hfO b fl.length q then q + 1 else q) (if hfO b fl.length q then Int64.ofInt (b q / 2) else x)) := by
  have n64 := X.2.2.2.2.1
  have A := fun q x => verX_A (sH_V (q := q) (x := x) X V)
  have cn := Sr_cnt (m := n) (x := x) (mo := (fl.length : Int) - 1) X q0 (by omega) (by omega) (by omega)
  rw [show (fl.length : Int) - 1 + 1 = fl.length by omega] at cn
  rw [StreamReader_readBranch_F]
  unfold StreamReader_readBranch_b
  rw [sH_gr1, Option.bind_some, Sa_on (A _ _), pl_ci (Sa_bc (A _ _) hf h4 hn hy), sH_sron, show (1 : Int32) = Int32.ofInt 1 from rfl, zi_sub, pl_ci cn]
  by_cases c1 : hfO b fl.length q
  · obtain ⟨h1, h2, h3⟩ := c1
    have c1 : hfO b fl.length q := ⟨h1, h2, h3⟩
    have e32 : (Int64.ofInt (b q / 2)).toInt32 = Int32.ofInt (b q / 2) := by
      have := zb_32 (b q / 2).toNat (by omega)
      rw [show (((b q / 2).toNat : Nat) : Int) = b q / 2 by omega] at this
      exact this
    rw [if_pos c1, if_pos c1, if_pos c1, if_pos c1, if_neg (show ¬ Int32.ofInt 1 = 0 from by decide), sH_gr1, Option.bind_some, sH_gl2, Option.bind_some, Sa_on (A _ _), e32, pl_ci (Sa_br (A _ _) (by omega) (by omega) hf h4 hn hy), if_pos (show 0 ≤ b q / 2 ∧ b q / 2 < fl.length from ⟨by omega, h3⟩)]
    rfl
  · rw [if_neg c1, if_neg c1, if_neg c1, if_neg c1, if_pos (show Int32.ofInt 0 = 0 from rfl)]
    rfl
theorem Sk_flL {n D : Nat} {dep : Int} (X : stX g cu sr sc N b) (V : verX g sc l c fe fn fu) (R : skP g cu sr sc N c b fn (n + 1) D) (d0 : 0 ≤ dep) (d1 : dep + 1 + D ≤ 6) : ∀ (fl : List Int) (i fuel : Nat) (q : Int) (x : Int64), fl ≠ [] → i + fl.length ≤ 6 → nxC fn fl → (∀ y ∈ fl, 0 ≤ y ∧ y < l ∧ 0 ≤ spTy c D (y + 2) ∧ MkN fn c D (y + 2)) → 0 ≤ q → q ≤ N → fl.length < fuel → stR g cu sr sc N (StreamReader_skipFields_lp12 (ax_F (n + 1)) fuel (some sr) (Int32.ofInt dep) (Int32.ofInt (fl.getD 0 0)) (Int32.ofInt i) (sH g cu sr sc N q x)) (spSf (spSc c b D) fl q) := by
  have A := fun q x => verX_A (sH_V (q := q) (x := x) X V)
  have l1 := (Sa_lt (A 0 0)).1
  intro fl
  induction fl with
  | nil => intro i fuel q x z; exact absurd rfl z
  | cons y fl ih =>
    intro i fuel q x _ hi hn hy q0 q1 hf
    obtain ⟨fuel, rfl⟩ : ∃ g, fuel = g + 1 := ⟨fuel - 1, by omega⟩
    have hstep : StreamReader_skipFields_lp12 (ax_F (n + 1)) (fuel + 1) = StreamReader_skipFields_bd12 (ax_F (n + 1)) (StreamReader_skipFields_lp12 (ax_F (n + 1)) fuel) := rfl
    rw [List.length_cons] at hi hf
    obtain ⟨y0, y1, y2, y3⟩ := hy y List.mem_cons_self
    have B := spSc_b (c := c) X.2.2.2.2.2.1 D (y + 2) q q0 q1
    obtain ⟨x', r⟩ := R q (y + 2) (dep + 1) x (by omega) (by omega) (by omega) y2 y3 q0 q1
    rw [hstep, show (y :: fl).getD 0 0 = y from rfl]
    unfold StreamReader_skipFields_bd12
    rw [if_neg (show ¬ (6 : Int32) ≤ Int32.ofInt i from by rw [show (6 : Int32) = Int32.ofInt 6 from rfl, zi_le (by omega) (by omega) (by omega) (by omega)]; omega), if_neg (show ¬ Int32.ofInt y = -1 from by rw [show (-1 : Int32) = Int32.ofInt (-1) from rfl, zi_eq (by omega) (by omega) (by omega) (by omega)]; omega), sH_gr1, Option.bind_some, Sa_on (A _ _), pl_ci Sc_fty, sH_sron, show (1 : Int32) = Int32.ofInt 1 from rfl, zi_add, zi_add, pl_ci r, show spSf (spSc c b D) (y :: fl) q = if spSc c b D (y + 2) q < 0 then spSc c b D (y + 2) q else spSf (spSc c b D) fl (spSc c b D (y + 2) q) from rfl]
    by_cases c1 : 0 ≤ spSc c b D (y + 2) q
    · have b1 := B.1 c1
      rw [if_pos c1, if_pos c1, if_neg (show ¬ Int32.ofInt 1 = 0 from by decide), if_neg (show ¬ spSc c b D (y + 2) q < 0 by omega), sH_gr1, Option.bind_some, Sa_on (A _ _), pl_ci (Sa_next (A _ _) y0 y1), show (i : Int) + 1 = ((i + 1 : Nat) : Int) by omega]
      cases fl with
      | nil =>
        have hn1 : fn y.toNat = -1 := hn
        obtain ⟨fuel, rfl⟩ : ∃ g, fuel = g + 1 := ⟨fuel - 1, by omega⟩
        have hstep : StreamReader_skipFields_lp12 (ax_F (n + 1)) (fuel + 1) = StreamReader_skipFields_bd12 (ax_F (n + 1)) (StreamReader_skipFields_lp12 (ax_F (n + 1)) fuel) := rfl
        rw [hn1, hstep, show spSf (spSc c b D) [] (spSc c b D (y + 2) q) = spSc c b D (y + 2) q from rfl]
        unfold StreamReader_skipFields_bd12
        refine ⟨x', ?_⟩
        rw [if_pos c1, if_pos c1]
        by_cases c4 : (6 : Int32) ≤ Int32.ofInt ((i + 1 : Nat) : Int)
        · rw [if_pos c4]; exact za_rz (v := 1) (Or.inr rfl)
        · rw [if_neg c4, if_pos (show Int32.ofInt (-1) = -1 from rfl)]; exact za_rz (v := 1) (Or.inr rfl)
      | cons w fl =>
        have hn1 : fn y.toNat = w := hn.1
        rw [hn1]
        exact ih (i + 1) fuel (spSc c b D (y + 2) q) x' (by simp) (by omega) hn.2 (fun u hu => hy u (List.mem_cons_of_mem _ hu)) (by omega) (by omega) (by omega)
    · rw [if_neg c1, if_neg c1, if_pos (show Int32.ofInt 0 = 0 from rfl), if_pos (show spSc c b D (y + 2) q < 0 by omega)]
      refine ⟨x', ?_⟩
      rw [if_neg c1, if_neg c1]
      exact za_rz (v := 0) (Or.inl rfl)
/-- the class skips values as the text says -/
theorem Sk_all (X : stX g cu sr sc N b) (V : verX g sc l c fe fn fu) : ∀ (D m : Nat), skP g cu sr sc N c b fn (m + 3 * D + 4) D
  | 0, m => fun q t dep x d0 d1 t0 hT hM q0 q1 => by
    have hc := spTy_c 0 t t0 hT
    exact Sk_leaf X V d0 (by omega) t0 (by rcases hc with h | h | h; exact Or.inl h; exact Or.inr h; exact absurd rfl h.1) q0 q1
  | D + 1, m => fun q t dep x d0 d1 t0 hT hM q0 q1 => by
    have R : skP g cu sr sc N c b fn (m + 3 * D + 4) D := Sk_all X V D m
    have R1 : skP g cu sr sc N c b fn (m + 3 * D + 5) D := by
      have := Sk_all X V D (m + 1)
      rw [show m + 1 + 3 * D + 4 = m + 3 * D + 5 by omega] at this
      exact this
    have A := fun q x => verX_A (sH_V (q := q) (x := x) X V)
    obtain ⟨l1, l2, l3, l4⟩ := Sa_lt (A 0 0)
    have hc := spTy_c (D + 1) t t0 hT
    have n64 := X.2.2.2.2.1
    have ct := l3 t
    have ek : (Int32.ofInt (c t)).toInt = c t := zi_toInt (by omega) (by omega)
    rw [show m + 3 * (D + 1) + 4 = m + 3 * D + 4 + 2 + 1 by omega]
    rcases hc with hp | hp | ⟨_, hp⟩
    · have e : spSc c b (D + 1) t q = spSl c b t q := by rw [spSc_s]; unfold spS1; rw [if_neg (by omega), if_neg (by omega), if_neg (by omega)]
      rw [e]
      exact Sk_leaf (m := m + 3 * D + 3) X V d0 (by omega) t0 (Or.inl hp) q0 q1
    · have e : spSc c b (D + 1) t q = spSl c b t q := by rw [spSc_s]; unfold spS1; rw [if_neg (by omega), if_neg (by omega), if_neg (by omega)]
      rw [e]
      exact Sk_leaf (m := m + 3 * D + 3) X V d0 (by omega) t0 (Or.inr hp) q0 q1
    · have tl := l4 t (by rcases hp with h | h | h <;> omega)
      rw [StreamReader_skip_F]
      unfold StreamReader_skip_b
      rw [if_pos (show Int32.ofInt dep ≤ 6 from by rw [show (6 : Int32) = Int32.ofInt 6 from rfl, zi_le (by omega) (by omega) (by omega) (by omega)]; omega), Sk_dis (m := m + 3 * D + 4) X V d0 (by omega) t0 tl, spSc_s]
      unfold spS1
      rcases hp with hp | hp | hp
      · rw [hp] at ek ⊢
        simp only [ek, Int.reduceEq, ↓reduceIte]
        rw [sH_sron]
        refine stR_rz ?_ (fun _ _ => rfl)
        rw [StreamReader_skipElements_F]
        unfold StreamReader_skipElements_b
        rw [spTy_A hp] at hT
        exact Sk_elsL (n := m + 3 * D + 3) X V R d0 (by omega) t0 hT (hM.1 hp) 21 20 0 ax_fuel q x (by omega) (by omega) q0 q1 (by unfold ax_fuel; omega)
      · obtain ⟨p1, p2, p3⟩ := spPt_U (N := l) l2 t0 hT hp
        obtain ⟨m1, m2⟩ := hM.2.1 hp
        have hy : ∀ y ∈ spPt c (D + 1) t, 0 ≤ y ∧ y < l := fun y hy => by
          obtain ⟨z1, z2, z3, z4⟩ := p3 y hy
          have := spTy_gt l2 D y (by omega) z2
          omega
        have rb := Sk_rb (n := m + 3 * D + 2) (x := x) X V p1 p2 m1 hy q0 q1
        rw [hp] at ek ⊢
        simp only [ek, Int.reduceEq, ↓reduceIte]
        rw [sH_sron]
        refine stR_rz ?_ (fun _ _ => rfl)
        rw [StreamReader_skipBranch_F]
        unfold StreamReader_skipBranch_b
        rw [sH_sron]
        generalize spPt c (D + 1) t = fl at *
        by_cases c1 : hfO b fl.length q
        · obtain ⟨h1, h2, h3⟩ := c1
          have c1 : hfO b fl.length q := ⟨h1, h2, h3⟩
          have lt := (bSt_b X.2.2.2.2.2.1 q0).2.2.1 h1
          have hm : fl.getD (b q / 2).toNat 0 ∈ fl := getD_mem (by omega)
          obtain ⟨z1, z2, z3, z4⟩ := p3 _ hm
          have yl := hy _ hm
          rw [if_pos c1, if_pos c1, if_pos c1] at rb
          rw [pl_ci rb, if_pos c1]
          generalize fl.getD (b q / 2).toNat 0 = y at *
          obtain ⟨x', r⟩ := R1 (q + 1) y (dep + 1) (Int64.ofInt (b q / 2)) (by omega) (by omega) (by omega) z2 (m2 y hm) (by omega) (by omega)
          rw [if_neg (show ¬ Int32.ofInt y = -1 from by rw [show (-1 : Int32) = Int32.ofInt (-1) from rfl, zi_eq (by omega) (by omega) (by omega) (by omega)]; omega), sH_sron, show (1 : Int32) = Int32.ofInt 1 from rfl, zi_add, pl_ci r]
          refine ⟨x', ?_⟩
          by_cases c3 : 0 ≤ spSc c b D y (q + 1)
          · rw [if_pos c3, if_pos c3, if_neg (show ¬ Int32.ofInt 1 = 0 from by decide)]; exact za_rz (v := 1) (Or.inr rfl)
          · rw [if_neg c3, if_neg c3, if_pos (show Int32.ofInt 0 = 0 from rfl)]; exact za_rz (v := 0) (Or.inl rfl)
        · rw [if_neg c1, if_neg c1, if_neg c1] at rb
          rw [pl_ci rb, if_neg c1, if_pos (show Int32.ofInt (-1) = -1 from rfl)]
          refine ⟨x, ?_⟩
          rw [if_neg (by omega), if_neg (by omega), show -1 - (-1 - q) = q by omega]
          exact za_rz (v := 0) (Or.inl rfl)
      · obtain ⟨⟨k, p1⟩, p2, p3⟩ := spPt_R (N := l) (by omega) l2 t0 hT hp
        obtain ⟨m1, m2⟩ := hM.2.2 hp
        rw [hp] at ek ⊢
        simp only [ek, Int.reduceEq, ↓reduceIte]
        rw [sH_sron]
        refine stR_rz ?_ (fun _ _ => rfl)
        rw [StreamReader_skipFields_F]
        unfold StreamReader_skipFields_b
        rw [sH_gr1, Option.bind_some, Sa_on (A _ _), pl_ci Sc_fst]
        have := Sk_flL (n := m + 3 * D + 4) (dep := dep) X V R1 d0 (by omega) (spPt c (D + 1) t) 0 ax_fuel q x (by rw [p1]; simp) (by omega) m1 (fun y hy => by
          obtain ⟨z1, z2, z3, z4, z5, z6⟩ := p3 y hy
          have := spTy_gt l2 D (y + 2) (by omega) z2
          exact ⟨by omega, by omega, z2, m2 y hy⟩) q0 q1 (by unfold ax_fuel; omega)
        rw [p1] at this ⊢
        exact this
end SKP
