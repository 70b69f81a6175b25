theorem Model_same_0 {m : Nat} {h : ax_Hp} {s : mS} {w i : Int} {fuel : Nat} (hf : 0 < fuel) : Model_sameText_lp21 (ax_F m) fuel (some 24) (Int32.ofInt w) (Int32.ofInt 0) (Int32.ofInt i) (mH h s) = some (.inl (some (ax_I (Int32.ofInt 0))), mH h s) := by
  obtain ⟨fuel, rfl⟩ : ∃ g, fuel = g + 1 := ⟨fuel - 1, by omega⟩
  have hstep : Model_sameText_lp21 (ax_F m) (fuel + 1) = Model_sameText_bd21 (ax_F m) (Model_sameText_lp21 (ax_F m) fuel) := rfl
  rw [hstep]
  unfold Model_sameText_bd21 Model_sameText_jn66
  rw [mgi_1, Option.bind_some]
  by_cases q : Int32.ofInt (s.1 1) ≤ Int32.ofInt i
  · rw [if_pos q]; exact za_rz (v := 0) (Or.inl rfl)
  · rw [if_neg q, if_pos (show Int32.ofInt 0 = 0 from rfl)]; exact za_rz (v := 0) (Or.inl rfl)
theorem Model_same_l {m : Nat} {h : ax_Hp} {s : mS} {w n : Int} {c v : Int → Int} (w0 : 0 ≤ w) (w1 : w < 24) (hn : s.1 1 = n) (n1 : n ≤ 160) (hc : ∀ p : Int, 0 ≤ p → p < n → s.2.2.1 12 (160 * w + p).toNat = c p ∧ 0 ≤ c p ∧ c p < 128) (hv : ∀ p : Int, 0 ≤ p → p < n → s.2.2.1 2 p.toNat = v p ∧ 0 ≤ v p ∧ v p < 128) : ∀ (k : Nat) (i : Int) (fuel : Nat), 0 ≤ i → i + k = n → k + 1 < fuel → ((∀ p : Int, i ≤ p → p < n → c p = v p) → Model_sameText_lp21 (ax_F m) fuel (some 24) (Int32.ofInt w) (Int32.ofInt 1) (Int32.ofInt i) (mH h s) = some (.inl (some (ax_I (Int32.ofInt 1))), mH h s)) ∧ ((¬ ∀ p : Int, i ≤ p → p < n → c p = v p) → Model_sameText_lp21 (ax_F m) fuel (some 24) (Int32.ofInt w) (Int32.ofInt 1) (Int32.ofInt i) (mH h s) = some (.inl (some (ax_I (Int32.ofInt 0))), mH h s))
  | 0, i, fuel, i0, hi, hf => by
    obtain ⟨fuel, rfl⟩ : ∃ g, fuel = g + 1 := ⟨fuel - 1, by omega⟩
    have hstep : Model_sameText_lp21 (ax_F m) (fuel + 1) = Model_sameText_bd21 (ax_F m) (Model_sameText_lp21 (ax_F m) fuel) := rfl
    refine ⟨fun _ => ?_, fun z => absurd (fun p p0 p1 => by omega) z⟩
    rw [hstep]
    unfold Model_sameText_bd21 Model_sameText_jn66
    rw [mgi_1, Option.bind_some, hn, if_pos (show Int32.ofInt n ≤ Int32.ofInt i from by rw [zi_le (by omega) (by omega) (by omega) (by omega)]; omega)]
    exact za_rz (v := 1) (Or.inr rfl)
  | k + 1, i, fuel, i0, hi, hf => by
    obtain ⟨fuel, rfl⟩ : ∃ g, fuel = g + 1 := ⟨fuel - 1, by omega⟩
    have hstep : Model_sameText_lp21 (ax_F m) (fuel + 1) = Model_sameText_bd21 (ax_F m) (Model_sameText_lp21 (ax_F m) fuel) := rfl
    obtain ⟨I1, I2⟩ := Model_same_l (m := m) (h := h) w0 w1 hn n1 hc hv k (i + 1) fuel (by omega) (by omega) (by omega)
    obtain ⟨u1, u2, u3⟩ := hc i i0 (by omega)
    obtain ⟨v1, v2, v3⟩ := hv i i0 (by omega)
    have st : Model_sameText_lp21 (ax_F m) (fuel + 1) (some 24) (Int32.ofInt w) (Int32.ofInt 1) (Int32.ofInt i) (mH h s) = if c i = v i then Model_sameText_lp21 (ax_F m) fuel (some 24) (Int32.ofInt w) (Int32.ofInt 1) (Int32.ofInt (i + 1)) (mH h s) else Model_sameText_lp21 (ax_F m) fuel (some 24) (Int32.ofInt w) (Int32.ofInt 0) (Int32.ofInt (i + 1)) (mH h s) := by
      rw [hstep]
      unfold Model_sameText_bd21 Model_sameText_jn59
      rw [mgi_1, Option.bind_some, hn, if_neg (show ¬ Int32.ofInt n ≤ Int32.ofInt i from by rw [zi_le (by omega) (by omega) (by omega) (by omega)]; omega), if_neg (show ¬ Int32.ofInt 1 = 0 from by decide), mgr_12, Option.bind_some, show (160 : Int32) = Int32.ofInt 160 from rfl, zi_mul, zi_add, mld_12 _ _ _ (by omega) (by omega), Option.bind_some, mgr_2, Option.bind_some, mld_2 _ _ _ i0 (by omega), Option.bind_some, u1, v1, show (1 : Int32) = Int32.ofInt 1 from rfl, zi_add]
      by_cases q : c i = v i
      · rw [if_pos (by rw [q]), if_pos q]
      · rw [if_neg (show ¬ Int32.ofInt (c i) = Int32.ofInt (v i) from by rw [zi_eq (by omega) (by omega) (by omega) (by omega)]; exact q), if_neg q]
        rfl
    rw [st]
    refine ⟨fun z => ?_, fun z => ?_⟩
    · rw [if_pos (z i (Int.le_refl _) (by omega))]
      exact I1 (fun p p0 p1 => z p (by omega) p1)
    · by_cases q : c i = v i
      · rw [if_pos q]
        refine I2 (fun w => z (fun p p0 p1 => ?_))
        by_cases e : p = i
        · rw [e]; exact q
        · exact w p (by omega) p1
      · rw [if_neg q]
        exact Model_same_0 (by omega)
theorem Model_sameText_z {m : Nat} {h : ax_Hp} {s : mS} {w n l : Int} {c v : Int → Int} (VT : veT s w l c) (Y : tyT s n v) : (teq l c n v → ax_F (m + 1) 178 [ax_A (some 24), ax_I (Int32.ofInt w)] (mH h s) = some (.inl (some (ax_I (Int32.ofInt 1))), mH h s)) ∧ (¬ teq l c n v → ax_F (m + 1) 178 [ax_A (some 24), ax_I (Int32.ofInt w)] (mH h s) = some (.inl (some (ax_I (Int32.ofInt 0))), mH h s)) := by
  obtain ⟨t1, t2, t3, t4, t5, t6, t7, t8, t9⟩ := VT
  obtain ⟨y1, y2, y3, y4, y5, y6⟩ := Y
  rw [Model_sameText_F]
  unfold Model_sameText_b Model_sameText_jn18
  rw [mgr_13, Option.bind_some, mld_13 _ _ _ t1 t2, Option.bind_some, mgi_1, Option.bind_some, t3, y1]
  by_cases q : l = n
  · obtain ⟨I1, I2⟩ := Model_same_l (m := m) (h := h) (s := s) (w := w) (n := n) (c := c) (v := v) t1 t2 y1 y3 (fun p p0 p1 => ⟨t6 p p0 (by omega), t8 p⟩) (fun p p0 p1 => ⟨y4 p p0 p1, y6 p⟩) n.toNat 0 ax_fuel (by omega) (by omega) (by unfold ax_fuel; omega)
    rw [if_pos (by rw [q])]
    exact ⟨fun z => I1 z.2, fun z => I2 (fun w => z ⟨q, w⟩)⟩
  · rw [if_neg (show ¬ Int32.ofInt l = Int32.ofInt n from by rw [zi_eq (by omega) (by omega) (by omega) (by omega)]; exact q)]
    exact ⟨fun z => absurd z.1 q, fun _ => Model_same_0 (m := m) (h := h) (s := s) (w := w) (i := 0) (fuel := ax_fuel) (by unfold ax_fuel; omega)⟩
/-- the reference looks the number up -/
theorem Model_num_l {m cnt k : Nat} {h : ax_Hp} {s : mS} {z n : Int} {ln : Nat → Int} {cs : Nat → Int → Int} {v : Int → Int} (z0 : 0 ≤ z) (z1 : z ≤ 3) (hc : s.2.2.1 11 z.toNat = cnt) (h6 : cnt ≤ 6) (V : ∀ j : Nat, j < cnt → veT s (6 * z + j) (ln j) (cs j)) (Y : tyT s n v) (K : fstP (fun j => teq (ln j) (cs j) n v) cnt k) : ∀ (r j fuel : Nat), j + r = k → r < fuel → Model_register_lp49 (ax_F (m + 1)) fuel (some 24) (Int32.ofInt z) (Int32.ofInt j) (mH h s) = Model_register_jn78 (ax_F (m + 1)) (some 24) (Int32.ofInt z) (Int32.ofInt k) (mH h s)
  | 0, j, fuel, hj, hf => by
    obtain ⟨fuel, rfl⟩ : ∃ g, fuel = g + 1 := ⟨fuel - 1, by omega⟩
    have hstep : Model_register_lp49 (ax_F (m + 1)) (fuel + 1) = Model_register_bd49 (ax_F (m + 1)) (Model_register_lp49 (ax_F (m + 1)) fuel) := rfl
    obtain ⟨K1, K2, K3⟩ := K
    have hk : j = k := by omega
    rw [hstep, hk]
    unfold Model_register_bd49
    rw [mgr_11, Option.bind_some, mld_11 _ _ _ z0 (by omega), Option.bind_some, hc]
    by_cases q : k < cnt
    · rw [if_neg (show ¬ Int32.ofInt cnt ≤ Int32.ofInt k from by rw [zi_le (by omega) (by omega) (by omega) (by omega)]; omega), mS_on, show (6 : Int32) = Int32.ofInt 6 from rfl, zi_mul, zi_add, pl_ci ((Model_sameText_z (V k q) Y).1 (K3 q)), if_neg (show ¬ Int32.ofInt 1 = 0 from by decide)]
    · rw [if_pos (show Int32.ofInt cnt ≤ Int32.ofInt k from by rw [zi_le (by omega) (by omega) (by omega) (by omega)]; omega)]
  | r + 1, j, fuel, hj, hf => by
    obtain ⟨fuel, rfl⟩ : ∃ g, fuel = g + 1 := ⟨fuel - 1, by omega⟩
    have hstep : Model_register_lp49 (ax_F (m + 1)) (fuel + 1) = Model_register_bd49 (ax_F (m + 1)) (Model_register_lp49 (ax_F (m + 1)) fuel) := rfl
    have ih := Model_num_l (m := m) (h := h) z0 z1 hc h6 V Y K r (j + 1) fuel (by omega) (by omega)
    obtain ⟨K1, K2, K3⟩ := K
    rw [hstep]
    unfold Model_register_bd49
    rw [mgr_11, Option.bind_some, mld_11 _ _ _ z0 (by omega), Option.bind_some, hc, if_neg (show ¬ Int32.ofInt cnt ≤ Int32.ofInt j from by rw [zi_le (by omega) (by omega) (by omega) (by omega)]; omega), mS_on, show (6 : Int32) = Int32.ofInt 6 from rfl, zi_mul, zi_add, pl_ci ((Model_sameText_z (V j (by omega)) Y).2 (K2 j (by omega))), if_pos (show Int32.ofInt 0 = 0 from rfl), show (1 : Int32) = Int32.ofInt 1 from rfl, zi_add, show (j : Int) + 1 = ((j + 1 : Nat) : Int) by omega]
    exact ih
/-- which ways are asked: a the newer reads the older, b the older reads the newer -/
def gon (md : Int) (a b : Bool) : Bool := ((if md = 1 ∨ md = 3 then a else true) && (if md = 2 ∨ md = 3 then b else true))
def md3 (mode : Int) : Int := if 3 < mode then mode - 3 else mode
theorem bI_b (b : Bool) : bI b = 0 ∨ bI b = 1 := by cases b; exact Or.inl rfl; exact Or.inr rfl
/-- the class asks whether two schemas get on -/
theorem Sb_getOn {m i cnt n sc l : Nat} {h : ax_Hp} {mode : Int} {ad : Nat → Nat} {c v : Int → Int} {fe fn fu ge gn gu : Nat → Int} (S : sbX h i cnt mode ad) (m0 : 0 ≤ mode) (m1 : mode ≤ 6) (V : verX h sc l c fe fn fu) (C : cdX h n v ge gn gu) (G : gdS n v ge gn gu) : ax_F (m + 31) 70 [ax_A (some (15 + 2 * i)), ax_A (some 4), ax_A (some sc)] h = some (.inl (some (ax_I (Int32.ofInt (bI (gon (md3 mode) (crd v c 13 6 6 0 0) (crd c v 13 6 6 0 0)))))), h) := by
  have G' : gdS l c fe fn fu := V.2.2.2.2.2.2.2.2.2.2.2
  have r1 := Co_read (m := m) (cdX_A C) (verX_A V) G G'
  have r2 := Co_read (m := m) (verX_A V) (cdX_A C) G' G
  have s2 : ax_gi h (some (15 + 2 * i)) 6 2 = some (Int32.ofInt mode) := pl_gi S.1 rfl
  generalize crd v c 13 6 6 0 0 = a at *
  generalize crd c v 13 6 6 0 0 = b at *
  have key : ∀ md : Int, md = 0 ∨ md = 1 ∨ md = 2 ∨ md = 3 → Subject_getOn_jn21 (ax_F (m + 30)) (some 4) (some sc) (Int32.ofInt md) h = some (.inl (some (ax_I (Int32.ofInt (bI (gon md a b))))), h) := by
    intro md hm
    have z1 : ax_rz 1 h = some (.inl (some (ax_I (Int32.ofInt 1))), h) := za_rz (v := 1) (Or.inr rfl)
    have z0 : ax_rz 0 h = some (.inl (some (ax_I (Int32.ofInt 0))), h) := za_rz (v := 0) (Or.inl rfl)
    have j0 : Subject_getOn_jn69 (ax_F (m + 30)) (some 4) (some sc) 0 h = some (.inl (some (ax_I (Int32.ofInt 1))), h) := by
      unfold Subject_getOn_jn69 Subject_getOn_jn82
      rw [if_pos rfl, z1]
    have j1 : Subject_getOn_jn69 (ax_F (m + 30)) (some 4) (some sc) 1 h = some (.inl (some (ax_I (Int32.ofInt (bI b)))), h) := by
      unfold Subject_getOn_jn69 Subject_getOn_jn82
      rw [if_neg (by decide), pl_ci r2]
      cases b
      · rw [if_pos (show Int32.ofInt (bI false) = 0 from rfl), z0]; rfl
      · rw [if_neg (show ¬ Int32.ofInt (bI true) = 0 from by decide), z1]; rfl
    have k1 : ∀ x5 : Int32, Subject_getOn_jn54 (ax_F (m + 30)) (some 4) (some sc) 1 x5 h = if a = true then Subject_getOn_jn69 (ax_F (m + 30)) (some 4) (some sc) x5 h else some (.inl (some (ax_I (Int32.ofInt 0))), h) := fun x5 => by
      unfold Subject_getOn_jn54
      rw [if_neg (by decide), pl_ci r1]
      cases a
      · rw [if_pos (show Int32.ofInt (bI false) = 0 from rfl), z0, if_neg (by decide)]
      · rw [if_neg (show ¬ Int32.ofInt (bI true) = 0 from by decide), if_pos rfl]
    have k0 : ∀ x5 : Int32, Subject_getOn_jn54 (ax_F (m + 30)) (some 4) (some sc) 0 x5 h = Subject_getOn_jn69 (ax_F (m + 30)) (some 4) (some sc) x5 h := fun x5 => by
      unfold Subject_getOn_jn54
      rw [if_pos rfl]
    unfold Subject_getOn_jn21 Subject_getOn_jn32 Subject_getOn_jn37 Subject_getOn_jn49
    rcases hm with rfl | rfl | rfl | rfl
    · rw [if_neg (by decide), if_neg (by decide), if_neg (by decide), if_neg (by decide), k0, j0]
      cases a <;> cases b <;> rfl
    · rw [if_pos (by decide), if_neg (by decide), if_neg (by decide), k1, j0]
      cases a <;> cases b <;> rfl
    · rw [if_neg (by decide), if_neg (by decide), if_pos (by decide), k0, j1]
      cases a <;> cases b <;> rfl
    · rw [if_neg (by decide), if_pos (by decide), if_neg (by decide), if_pos (by decide), k1, j1]
      cases a <;> cases b <;> rfl
  rw [Subject_getOn_F]
  unfold Subject_getOn_b
  rw [s2, Option.bind_some]
  unfold md3
  by_cases q : 3 < mode
  · rw [if_pos (show (3 : Int32) < Int32.ofInt mode from by rw [show (3 : Int32) = Int32.ofInt 3 from rfl, zi_lt (by omega) (by omega) (by omega) (by omega)]; exact q), if_pos q, Option.bind_some, show (3 : Int32) = Int32.ofInt 3 from rfl, zi_sub]
    exact key (mode - 3) (by omega)
  · rw [if_neg (show ¬ (3 : Int32) < Int32.ofInt mode from by rw [show (3 : Int32) = Int32.ofInt 3 from rfl, zi_lt (by omega) (by omega) (by omega) (by omega)]; exact q), if_neg q, Option.bind_some]
    exact key mode (by omega)
