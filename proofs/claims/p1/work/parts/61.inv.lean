/-- the desk, but for its subjects' versions: text tx, stream st, OUT ys, place p; sw: have OUT and the draft changed places? -/
def dkI (h : ax_Hp) (tx st ys : List Int32) (p : Int32) (sw : Bool) : Prop :=
  h.2.2 1 = some (.inl (8, [ax_A (some 2), ax_A (some 4), ax_A (some 8), ax_A (some 14), ax_A (some 23), ax_A (some (if sw then 12 else 10)), ax_A (some (if sw then 10 else 12)), ax_I p])) ∧
  rowIs h 2 3 160 tx ∧ rowIs h 8 9 64 st ∧ rowIs h (if sw then 12 else 10) (if sw then 13 else 11) 400 ys ∧ (∃ zs, rowIs h (if sw then 10 else 12) (if sw then 11 else 13) 400 zs) ∧
  h.2.2 14 = some (.inr (5, sjs)) ∧ h.2.2 4 = some (.inl (3, [ax_A (some 2), ax_A (some 5), ax_A (some 6), ax_A (some 7)])) ∧ (∀ a, a = 5 ∨ a = 6 ∨ a = 7 ∨ a = 23 → ∃ es : List Int32, es.length = 160 ∧ h.2.2 a = some (.inr (1, es.map ax_I)))
theorem dkI_start (sc : Option ax_Ob) : dkI (ax_ls 9731 ax_L0 sc) [] [] [] (-1) false := by
  have row : ∀ a b cap : Nat, a ≠ b → cap ≤ 1000000 → (ax_ls 9731 ax_L0 sc).2.2 a = some (.inl (2, [ax_A (some b), ax_I 0])) → (ax_ls 9731 ax_L0 sc).2.2 b = some (.inr (1, List.replicate cap (ax_I 0))) → rowIs (ax_ls 9731 ax_L0 sc) a b cap [] := fun a b cap hab hc h1 h2 =>
    ⟨_, ⟨h1, h2, Nat.zero_le _, by rw [List.length_replicate]; exact hc, hab⟩, List.length_replicate, by rw [List.length_nil, List.take_zero]; rfl⟩
  have arr : ∀ a, (ax_ls 9731 ax_L0 sc).2.2 a = some (.inr (1, List.replicate 160 (ax_I 0))) → ∃ es : List Int32, es.length = 160 ∧ (ax_ls 9731 ax_L0 sc).2.2 a = some (.inr (1, es.map ax_I)) := fun a h1 => ⟨List.replicate 160 0, List.length_replicate, by rw [h1, List.map_replicate]⟩
  refine ⟨(ls_at 0).trans rfl, row 2 3 160 (by decide) (by decide) ((ls_at 1).trans rfl) ((ls_at 2).trans rfl), row 8 9 64 (by decide) (by decide) ((ls_at 7).trans rfl) ((ls_at 8).trans rfl), row 10 11 400 (by decide) (by decide) ((ls_at 9).trans rfl) ((ls_at 10).trans rfl), ⟨[], row 12 13 400 (by decide) (by decide) ((ls_at 11).trans rfl) ((ls_at 12).trans rfl)⟩, (ls_at 13).trans rfl, (ls_at 3).trans rfl, fun a ha => ?_⟩
  rcases ha with rfl | rfl | rfl | rfl
  · exact arr 5 ((ls_at 4).trans rfl)
  · exact arr 6 ((ls_at 5).trans rfl)
  · exact arr 7 ((ls_at 6).trans rfl)
  · exact arr 23 ((ls_at 22).trans rfl)
