theorem Schema_clearMarks_e {m a t e n u k : Nat} {h : ax_Hp} {f1 f2 f3 : Nat → Int} (ha : h.2.2 a = some (.inl (3, [ax_A (some t), ax_A (some e), ax_A (some n), ax_A (some u)]))) (h1 : h.2.2 e = some (.inr (1, arL k f1))) (h2 : h.2.2 n = some (.inr (1, arL k f2))) (h3 : h.2.2 u = some (.inr (1, arL k f3))) (hk : k < 1000000) (d1 : a ≠ e) (d2 : a ≠ n) (d4 : n ≠ e) (d5 : u ≠ e) (d6 : u ≠ n) :
    ax_F (m + 2) 24 [ax_A (some a)] h = some (.inl none, ax_set (ax_set (ax_set h e (.inr (1, arL k (fun _ => -1)))) n (.inr (1, arL k (fun _ => -1)))) u (.inr (1, arL k (fun _ => 0)))) := by
  rw [Schema_clearMarks_F]
  unfold Schema_clearMarks_b
  rw [show (-1 : Int32) = Int32.ofInt (-1) from rfl, show (0 : Int32) = Int32.ofInt 0 from rfl]
  rw [pl_gr ha rfl, Option.bind_some, pl_cv (Arrays_fill_e (v := -1) hk h1), pl_gr (pl_ne d1 |>.trans ha) rfl, Option.bind_some]
  rw [pl_cv (Arrays_fill_e (v := -1) hk (pl_ne d4 |>.trans h2)), pl_gr (pl_ne d2 |>.trans (pl_ne d1 |>.trans ha)) rfl, Option.bind_some]
  rw [pl_cv (Arrays_fill_e (v := 0) hk (pl_ne d6 |>.trans (pl_ne d5 |>.trans h3)))]
  rfl
/-- at the end of the text no type begins -/
theorem SchemaReader_end_e {m a c : Nat} {h : ax_Hp} {x1 x2 w : ax_T} {len : Int32} {dp : Int32} (ha : h.2.2 a = some (.inl (4, [ax_A (some c), x1, x2]))) (hc : h.2.2 c = some (.inl (0, [w, ax_I len, ax_I len]))) : ax_F (m + 3) 26 [ax_A (some a), ax_I dp] h = some (.inl (some (ax_I 0)), h) := by
  rw [SchemaReader_readType_F]
  unfold SchemaReader_readType_b
  have e1 : ax_F (m + 2) 27 [ax_A (some c)] h = some (.inl (some (ax_I len)), h) := by
    rw [Cursor_at_F]
    unfold Cursor_at_b
    rw [pl_gi hc rfl]
    rfl
  have e2 : ax_F (m + 1) 29 [ax_A (some c)] h = some (.inl (some (ax_I (-1))), h) := by
    rw [Cursor_peek_F]
    unfold Cursor_peek_b
    rw [pl_gi hc rfl, Option.bind_some]
    by_cases q : len < 0
    · rw [if_pos q]
      rfl
    · rw [if_neg q, Option.bind_some, pl_gi hc rfl, Option.bind_some, if_pos (Int32.le_refl _)]
      rfl
  have e3 : ax_F (m + 2) 28 [ax_A (some a), ax_I dp] h = some (.inl (some (ax_I 0)), h) := by
    rw [SchemaReader_readTypeOfKind_F]
    unfold SchemaReader_readTypeOfKind_b
    rw [pl_gr ha rfl, Option.bind_some, pl_on hc, pl_ci e2]
    have z : ∀ k : Int, k ≠ -1 → ¬ (-1 : Int32).toInt = k := fun k hk => by rw [show (-1 : Int32).toInt = -1 from rfl]; exact fun c => hk c.symm
    rw [if_neg (z 65 (by decide)), if_neg (z 66 (by decide)), if_neg (z 67 (by decide)), if_neg (z 68 (by decide)), if_neg (z 69 (by decide)), if_neg (z 70 (by decide)), if_neg (z 71 (by decide)), if_neg (z 72 (by decide)), if_neg (z 73 (by decide)), if_neg (z 74 (by decide)), if_neg (z 75 (by decide)), if_neg (z 76 (by decide)), if_neg (z 77 (by decide)), if_neg (z 78 (by decide)), if_neg (z 79 (by decide)), if_neg (z 80 (by decide)), if_neg (z 81 (by decide)), if_neg (z 82 (by decide)), if_neg (z 83 (by decide)), if_neg (z 84 (by decide)), if_neg (z 85 (by decide))]
    exact pl_rz0
  rw [pl_gr ha rfl, Option.bind_some, pl_on hc, pl_ci e1, pl_on ha, pl_ci e3, if_pos rfl]
  exact pl_rz0
theorem SchemaReader_whole_no {m a c sc t e n u k : Nat} {h : ax_Hp} {x2 w : ax_T} {len : Int32} {f1 f2 f3 : Nat → Int} (ha : h.2.2 a = some (.inl (4, [ax_A (some c), ax_A (some sc), x2]))) (hc : h.2.2 c = some (.inl (0, [w, ax_I len, ax_I len]))) (hsc : h.2.2 sc = some (.inl (3, [ax_A (some t), ax_A (some e), ax_A (some n), ax_A (some u)]))) (h1 : h.2.2 e = some (.inr (1, arL k f1))) (h2 : h.2.2 n = some (.inr (1, arL k f2))) (h3 : h.2.2 u = some (.inr (1, arL k f3))) (hk : k < 1000000) (d1 : sc ≠ e) (d2 : sc ≠ n) (d4 : n ≠ e) (d5 : u ≠ e) (d6 : u ≠ n) (q1 : a ≠ e) (q2 : a ≠ n) (q3 : a ≠ u) (q4 : c ≠ e) (q5 : c ≠ n) (q6 : c ≠ u) :
    ax_F (m + 4) 23 [ax_A (some a)] h = some (.inl (some (ax_I 0)), ax_set (ax_set (ax_set h e (.inr (1, arL k (fun _ => -1)))) n (.inr (1, arL k (fun _ => -1)))) u (.inr (1, arL k (fun _ => 0)))) := by
  rw [SchemaReader_readWhole_F]
  unfold SchemaReader_readWhole_b
  have ha2 : (ax_set (ax_set (ax_set h e (.inr (1, arL k (fun _ => -1)))) n (.inr (1, arL k (fun _ => -1)))) u (.inr (1, arL k (fun _ => 0)))).2.2 a = some (.inl (4, [ax_A (some c), ax_A (some sc), x2])) := pl_ne q3 |>.trans (pl_ne q2 |>.trans (pl_ne q1 |>.trans ha))
  have hc2 : (ax_set (ax_set (ax_set h e (.inr (1, arL k (fun _ => -1)))) n (.inr (1, arL k (fun _ => -1)))) u (.inr (1, arL k (fun _ => 0)))).2.2 c = some (.inl (0, [w, ax_I len, ax_I len])) := pl_ne q6 |>.trans (pl_ne q5 |>.trans (pl_ne q4 |>.trans hc))
  rw [pl_gr ha rfl, Option.bind_some, pl_on hsc, pl_cv (Schema_clearMarks_e hsc h1 h2 h3 hk d1 d2 d4 d5 d6), pl_on ha2, pl_ci (SchemaReader_end_e ha2 hc2), if_pos rfl]
  exact pl_rz0
