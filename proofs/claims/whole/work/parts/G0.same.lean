/-- two texts are the same -/
def teq (l : Int) (c : Int → Int) (n : Int) (v : Int → Int) : Prop := l = n ∧ ∀ p : Int, 0 ≤ p → p < n → c p = v p
/-- the first of cnt that has P, or cnt -/
def fstP (P : Nat → Prop) (cnt k : Nat) : Prop := k ≤ cnt ∧ (∀ j, j < k → ¬ P j) ∧ (k < cnt → P k)
theorem fstP_ex (P : Nat → Prop) : ∀ cnt : Nat, ∃ k, fstP P cnt k
  | 0 => ⟨0, Nat.le_refl _, fun j hj => absurd hj (Nat.not_lt_zero _), fun h => absurd h (Nat.lt_irrefl _)⟩
  | cnt + 1 => by
    obtain ⟨k, h1, h2, h3⟩ := fstP_ex P cnt
    by_cases c1 : k < cnt
    · exact ⟨k, by omega, h2, fun _ => h3 c1⟩
    · by_cases c2 : P cnt
      · exact ⟨cnt, by omega, fun j hj => h2 j (by omega), fun _ => c2⟩
      · refine ⟨cnt + 1, Nat.le_refl _, fun j hj => ?_, fun h => absurd h (Nat.lt_irrefl _)⟩
        by_cases c3 : j < k
        · exact h2 j c3
        · rw [show j = cnt by omega]; exact c2
theorem Row_atG {m b bi lb cb : Nat} {h : ax_Hp} {fb : Nat → Int} {i : Int} (e3 : h.2.2 b = some (rwO bi (Int32.ofInt lb))) (e4 : h.2.2 bi = some (.inr (1, arL cb fb))) (hb : lb ≤ cb) (hc : cb ≤ 400) (i0 : 0 ≤ i) (i1 : i < lb) : ax_F (m + 1) 45 [ax_A (some b), ax_I (Int32.ofInt i)] h = some (.inl (some (ax_I (Int32.ofInt (fb i.toNat)))), h) := by
  rw [Row_at_F]
  unfold Row_at_b
  rw [if_neg (show ¬ Int32.ofInt i < 0 from zi_n0 (by omega) (by omega)), pl_gi e3 (v := Int32.ofInt lb) rfl, Option.bind_some, if_neg (show ¬ Int32.ofInt lb ≤ Int32.ofInt i from by rw [zi_le (by omega) (by omega) (by omega) (by omega)]; omega), pl_gr e3 (v := some bi) rfl, Option.bind_some, za_ld e4 i0 (by omega) (by omega), Option.bind_some]
  rfl
theorem Row_sameL {m a b ai bi ca cb la : Nat} {h : ax_Hp} {fa fb : Nat → Int} {u v : Int → Int} (e1 : h.2.2 a = some (rwO ai (Int32.ofInt la))) (e2 : h.2.2 ai = some (.inr (1, arL ca fa))) (e3 : h.2.2 b = some (rwO bi (Int32.ofInt la))) (e4 : h.2.2 bi = some (.inr (1, arL cb fb))) (ha : la ≤ ca) (ha' : ca ≤ 400) (hb : la ≤ cb) (hb' : cb ≤ 400) (hu : ∀ p : Int, 0 ≤ p → p < la → fa p.toNat = u p ∧ 0 ≤ u p ∧ u p < 128) (hv : ∀ p : Int, 0 ≤ p → p < la → fb p.toNat = v p ∧ 0 ≤ v p ∧ v p < 128) : ∀ (k : Nat) (i : Int) (fuel : Nat), 0 ≤ i → i + k = la → k < fuel → ((∀ p : Int, i ≤ p → p < la → u p = v p) → Row_sameAs_lp15 (ax_F (m + 1)) fuel (some a) (some b) (Int32.ofInt i) h = some (.inl (some (ax_I (Int32.ofInt 1))), h)) ∧ ((¬ ∀ p : Int, i ≤ p → p < la → u p = v p) → Row_sameAs_lp15 (ax_F (m + 1)) fuel (some a) (some b) (Int32.ofInt i) h = some (.inl (some (ax_I (Int32.ofInt 0))), h))
  | 0, i, fuel, i0, hi, hf => by
    obtain ⟨fuel, rfl⟩ : ∃ g, fuel = g + 1 := ⟨fuel - 1, by omega⟩
    have hstep : Row_sameAs_lp15 (ax_F (m + 1)) (fuel + 1) = Row_sameAs_bd15 (ax_F (m + 1)) (Row_sameAs_lp15 (ax_F (m + 1)) fuel) := rfl
    refine ⟨fun _ => ?_, fun z => absurd (fun p p0 p1 => by omega) z⟩
    rw [hstep]
    unfold Row_sameAs_bd15
    rw [pl_gi e1 (v := Int32.ofInt la) rfl, Option.bind_some, if_pos (show Int32.ofInt la ≤ Int32.ofInt i from by rw [zi_le (by omega) (by omega) (by omega) (by omega)]; omega)]
    exact za_rz (v := 1) (Or.inr rfl)
  | k + 1, i, fuel, i0, hi, hf => by
    obtain ⟨fuel, rfl⟩ : ∃ g, fuel = g + 1 := ⟨fuel - 1, by omega⟩
    have hstep : Row_sameAs_lp15 (ax_F (m + 1)) (fuel + 1) = Row_sameAs_bd15 (ax_F (m + 1)) (Row_sameAs_lp15 (ax_F (m + 1)) fuel) := rfl
    obtain ⟨I1, I2⟩ := Row_sameL (m := m) e1 e2 e3 e4 ha ha' hb hb' hu hv k (i + 1) fuel (by omega) (by omega) (by omega)
    obtain ⟨u1, u2, u3⟩ := hu i i0 (by omega)
    obtain ⟨v1, v2, v3⟩ := hv i i0 (by omega)
    have st : Row_sameAs_lp15 (ax_F (m + 1)) (fuel + 1) (some a) (some b) (Int32.ofInt i) h = if u i = v i then Row_sameAs_lp15 (ax_F (m + 1)) fuel (some a) (some b) (Int32.ofInt (i + 1)) h else some (.inl (some (ax_I (Int32.ofInt 0))), h) := by
      rw [hstep]
      unfold Row_sameAs_bd15
      rw [pl_gi e1 (v := Int32.ofInt la) rfl, Option.bind_some, if_neg (show ¬ Int32.ofInt la ≤ Int32.ofInt i from by rw [zi_le (by omega) (by omega) (by omega) (by omega)]; omega), pl_gr e1 (v := some ai) rfl, Option.bind_some, za_ld e2 i0 (by omega) (by omega), Option.bind_some, pl_on e3, pl_ci (Row_atG e3 e4 hb hb' i0 (by omega)), u1, v1]
      by_cases q : u i = v i
      · rw [if_pos (by rw [q]), if_pos q, show (1 : Int32) = Int32.ofInt 1 from rfl, zi_add]
      · rw [if_neg (show ¬ Int32.ofInt (u i) = Int32.ofInt (v i) from by rw [zi_eq (by omega) (by omega) (by omega) (by omega)]; exact q), if_neg q]
        exact za_rz (v := 0) (Or.inl rfl)
    rw [st]
    refine ⟨fun z => ?_, fun z => ?_⟩
    · rw [if_pos (z i (Int.le_refl _) (by omega))]
      exact I1 (fun p p0 p1 => z p (by omega) p1)
    · by_cases q : u i = v i
      · rw [if_pos q]
        refine I2 (fun w => z (fun p p0 p1 => ?_))
        by_cases e : p = i
        · rw [e]; exact q
        · exact w p (by omega) p1
      · rw [if_neg q]
theorem Row_same {m a b ai bi ca cb la lb : Nat} {h : ax_Hp} {fa fb : Nat → Int} {u v : Int → Int} (e1 : h.2.2 a = some (rwO ai (Int32.ofInt la))) (e2 : h.2.2 ai = some (.inr (1, arL ca fa))) (e3 : h.2.2 b = some (rwO bi (Int32.ofInt lb))) (e4 : h.2.2 bi = some (.inr (1, arL cb fb))) (ha : la ≤ ca) (ha' : ca ≤ 400) (hb : lb ≤ cb) (hb' : cb ≤ 400) (hu : ∀ p : Int, 0 ≤ p → p < la → fa p.toNat = u p ∧ 0 ≤ u p ∧ u p < 128) (hv : ∀ p : Int, 0 ≤ p → p < lb → fb p.toNat = v p ∧ 0 ≤ v p ∧ v p < 128) : (teq la u lb v → ax_F (m + 2) 68 [ax_A (some a), ax_A (some b)] h = some (.inl (some (ax_I (Int32.ofInt 1))), h)) ∧ (¬ teq la u lb v → ax_F (m + 2) 68 [ax_A (some a), ax_A (some b)] h = some (.inl (some (ax_I (Int32.ofInt 0))), h)) := by
  rw [Row_sameAs_F]
  unfold Row_sameAs_b
  rw [pl_gi e1 (v := Int32.ofInt la) rfl, Option.bind_some, pl_gi e3 (v := Int32.ofInt lb) rfl, Option.bind_some]
  by_cases q : la = lb
  · rw [← q] at e3 hb hv
    obtain ⟨I1, I2⟩ := Row_sameL (m := m) e1 e2 e3 e4 ha ha' hb hb' hu hv la 0 ax_fuel (by omega) (by omega) (by unfold ax_fuel; omega)
    rw [if_pos (by rw [q])]
    refine ⟨fun z => I1 (fun p p0 p1 => z.2 p p0 (by omega)), fun z => I2 (fun w => z ⟨by omega, fun p p0 p1 => w p p0 (by omega)⟩)⟩
  · rw [if_neg (show ¬ Int32.ofInt la = Int32.ofInt lb from by rw [zi_eq (by omega) (by omega) (by omega) (by omega)]; omega)]
    exact ⟨fun z => absurd z.1 (by omega), fun _ => za_rz (v := 0) (Or.inl rfl)⟩
def arS (cnt : Nat) (ad : Nat → Nat) : List ax_T := (List.range 6).map fun v => ax_A (if v < cnt then some (ad v) else none)
theorem arS_len (cnt : Nat) (ad : Nat → Nat) : (arS cnt ad).length = 6 := by unfold arS; rw [List.length_map, List.length_range]
theorem arS_at {cnt v : Nat} {ad : Nat → Nat} (hv : v < 6) : (arS cnt ad)[v]? = some (ax_A (if v < cnt then some (ad v) else none)) := by
  unfold arS
  rw [List.getElem?_map, List.getElem?_range hv]
  rfl
/-- subject i: its versions and its mode -/
def sbX (h : ax_Hp) (i cnt : Nat) (mode : Int) (ad : Nat → Nat) : Prop := h.2.2 (15 + 2 * i) = some (.inl (6, [ax_A (some (16 + 2 * i)), ax_I (Int32.ofInt cnt), ax_I (Int32.ofInt mode)])) ∧ h.2.2 (16 + 2 * i) = some (.inr (6, arS cnt ad)) ∧ cnt ≤ 6
theorem sb_ld {h : ax_Hp} {i cnt v : Nat} {mode : Int} {ad : Nat → Nat} (S : sbX h i cnt mode ad) (hv : v < cnt) : ax_ldr h (some (16 + 2 * i)) 6 (Int32.ofInt v) = some (some (ad v)) := by
  have := S.2.2
  have e : (arS cnt ad)[v]? = some (ax_A (some (ad v))) := by rw [arS_at (by omega), if_pos hv]
  exact pl_ldr S.2.1 (by omega) e
/-- the candidate -/
def cdX (h : ax_Hp) (n : Nat) (v : Int → Int) (fe fn fu : Nat → Int) : Prop := ∃ f : Nat → Int, h.2.2 4 = some (.inl (3, [ax_A (some 2), ax_A (some 5), ax_A (some 6), ax_A (some 7)])) ∧ h.2.2 2 = some (rwO 3 (Int32.ofInt n)) ∧ h.2.2 3 = some (.inr (1, arL 160 f)) ∧ h.2.2 5 = some (.inr (1, arL 160 fe)) ∧ h.2.2 6 = some (.inr (1, arL 160 fn)) ∧ h.2.2 7 = some (.inr (1, arL 160 fu)) ∧ n ≤ 160 ∧ (∀ p : Int, 0 ≤ p → p < n → f p.toNat = v p) ∧ (∀ p : Int, (n : Int) ≤ p → v p = 0) ∧ (∀ p : Int, 0 ≤ v p ∧ v p < 128)
theorem cdX_A {h : ax_Hp} {n : Nat} {v : Int → Int} {fe fn fu : Nat → Int} (C : cdX h n v fe fn fu) : schA h 4 n v fe fn fu := by
  obtain ⟨f, v1, v2, v3, v4, v5, v6, v7, v8, v9, v10⟩ := C
  exact ⟨_, _, _, _, _, 160, 160, f, v1, v2, v3, v4, v5, v6, by omega, by omega, by omega, by omega, v8, v9, v10⟩
theorem Sc_same {m sc l n : Nat} {h : ax_Hp} {c v : Int → Int} {fe fn fu ge gn gu : Nat → Int} (V : verX h sc l c fe fn fu) (C : cdX h n v ge gn gu) : (teq l c n v → ax_F (m + 3) 67 [ax_A (some sc), ax_A (some 4)] h = some (.inl (some (ax_I (Int32.ofInt 1))), h)) ∧ (¬ teq l c n v → ax_F (m + 3) 67 [ax_A (some sc), ax_A (some 4)] h = some (.inl (some (ax_I (Int32.ofInt 0))), h)) := by
  obtain ⟨f, w1, w2, w3, w4, w5, w6, w7, w8, w9, w10⟩ := C
  obtain ⟨v1, v2, v3, v4, v5, v6, v7, v8, v9, v10, v11, -⟩ := V
  obtain ⟨I1, I2⟩ := Row_same (m := m) (u := c) (v := v) v2 v3 w2 w3 (Nat.le_refl _) (by omega) w7 (by omega) (fun p p0 _ => ⟨by show c (p.toNat : Int) = c p; rw [Int.toNat_of_nonneg p0], v11 p⟩) (fun p p0 p1 => ⟨w8 p p0 p1, w10 p⟩)
  rw [Schema_sameTextAs_F]
  unfold Schema_sameTextAs_b
  rw [pl_gr v1 (v := some (sc + 1)) rfl, Option.bind_some, pl_gr w1 (v := some 2) rfl, Option.bind_some, pl_on v2]
  refine ⟨fun z => ?_, fun z => ?_⟩
  · rw [pl_ci (I1 z)]
    exact za_rz (v := 1) (Or.inr rfl)
  · rw [pl_ci (I2 z)]
    exact za_rz (v := 0) (Or.inl rfl)
/-- the class looks the number up -/
theorem Sb_numL {m i cnt n k : Nat} {h : ax_Hp} {mode : Int} {ad ln : Nat → Nat} {cs : Nat → Int → Int} {v : Int → Int} {fe fn fu : Nat → Nat → Int} {ge gn gu : Nat → Int} (S : sbX h i cnt mode ad) (V : ∀ j, j < cnt → verX h (ad j) (ln j) (cs j) (fe j) (fn j) (fu j)) (C : cdX h n v ge gn gu) (K : fstP (fun j => teq (ln j) (cs j) n v) cnt k) : ∀ (r j fuel : Nat), j + r = k → r < fuel → Subject_numberOf_lp2 (ax_F (m + 3)) fuel (some (15 + 2 * i)) (some 4) (Int32.ofInt j) h = some (.inl (some (ax_I (Int32.ofInt (if k < cnt then (k : Int) else -1)))), h)
  | 0, j, fuel, hj, hf => by
    obtain ⟨fuel, rfl⟩ : ∃ g, fuel = g + 1 := ⟨fuel - 1, by omega⟩
    have hstep : Subject_numberOf_lp2 (ax_F (m + 3)) (fuel + 1) = Subject_numberOf_bd2 (ax_F (m + 3)) (Subject_numberOf_lp2 (ax_F (m + 3)) fuel) := rfl
    have c6 := S.2.2
    obtain ⟨K1, K2, K3⟩ := K
    rw [hstep]
    unfold Subject_numberOf_bd2
    rw [pl_gi S.1 (v := Int32.ofInt cnt) rfl, Option.bind_some]
    by_cases q : k < cnt
    · have hk : j = k := by omega
      rw [if_neg (show ¬ Int32.ofInt cnt ≤ Int32.ofInt j from by rw [zi_le (by omega) (by omega) (by omega) (by omega)]; omega), pl_gr S.1 (v := some (16 + 2 * i)) rfl, Option.bind_some, sb_ld S (by omega), Option.bind_some, if_neg (fun z => nomatch z), pl_on (V j (by omega)).1, pl_ci ((Sc_same (V j (by omega)) C).1 (by rw [hk]; exact K3 q)), if_neg (show ¬ Int32.ofInt 1 = 0 from by decide), if_pos q, hk]
      rfl
    · rw [if_pos (show Int32.ofInt cnt ≤ Int32.ofInt j from by rw [zi_le (by omega) (by omega) (by omega) (by omega)]; omega), if_neg q]
      rfl
  | r + 1, j, fuel, hj, hf => by
    obtain ⟨fuel, rfl⟩ : ∃ g, fuel = g + 1 := ⟨fuel - 1, by omega⟩
    have hstep : Subject_numberOf_lp2 (ax_F (m + 3)) (fuel + 1) = Subject_numberOf_bd2 (ax_F (m + 3)) (Subject_numberOf_lp2 (ax_F (m + 3)) fuel) := rfl
    have c6 := S.2.2
    have ih := Sb_numL (m := m) S V C K r (j + 1) fuel (by omega) (by omega)
    obtain ⟨K1, K2, K3⟩ := K
    rw [hstep]
    unfold Subject_numberOf_bd2
    rw [pl_gi S.1 (v := Int32.ofInt cnt) rfl, Option.bind_some, if_neg (show ¬ Int32.ofInt cnt ≤ Int32.ofInt j from by rw [zi_le (by omega) (by omega) (by omega) (by omega)]; omega), pl_gr S.1 (v := some (16 + 2 * i)) rfl, Option.bind_some, sb_ld S (by omega), Option.bind_some, if_neg (fun z => nomatch z), pl_on (V j (by omega)).1, pl_ci ((Sc_same (V j (by omega)) C).2 (K2 j (by omega))), if_pos (show Int32.ofInt 0 = 0 from rfl), show (1 : Int32) = Int32.ofInt 1 from rfl, zi_add, show (j : Int) + 1 = ((j + 1 : Nat) : Int) by omega]
    exact ih
theorem Sb_num {m i cnt n k : Nat} {h : ax_Hp} {mode : Int} {ad ln : Nat → Nat} {cs : Nat → Int → Int} {v : Int → Int} {fe fn fu : Nat → Nat → Int} {ge gn gu : Nat → Int} (S : sbX h i cnt mode ad) (V : ∀ j, j < cnt → verX h (ad j) (ln j) (cs j) (fe j) (fn j) (fu j)) (C : cdX h n v ge gn gu) (K : fstP (fun j => teq (ln j) (cs j) n v) cnt k) : ax_F (m + 4) 66 [ax_A (some (15 + 2 * i)), ax_A (some 4)] h = some (.inl (some (ax_I (Int32.ofInt (if k < cnt then (k : Int) else -1)))), h) := by
  rw [Subject_numberOf_F]
  unfold Subject_numberOf_b
  have c6 := S.2.2
  have k1 := K.1
  exact Sb_numL S V C K k 0 ax_fuel (by omega) (by unfold ax_fuel; omega)
