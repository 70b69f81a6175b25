/-- the reference, but for its versions and its working arrays -/
def mdI (h : ax_Hp) (tx st ys : List Int32) (p : Int32) : Prop :=
  ∃ fs : List ax_T, h.2.2 24 = some (.inl (9, fs)) ∧ fs.length = 50 ∧ fs[1]? = some (ax_I (Int32.ofNat tx.length)) ∧ fs[2]? = some (ax_A (some 25)) ∧ fs[3]? = some (ax_I (Int32.ofNat st.length)) ∧ fs[4]? = some (ax_A (some 26)) ∧ fs[5]? = some (ax_I (Int32.ofNat ys.length)) ∧ fs[6]? = some (ax_A (some 27)) ∧ fs[9]? = some (ax_I p) ∧ fs[10]? = some (ax_A (some 29)) ∧ fs[11]? = some (ax_A (some 30)) ∧
    arrIs h 25 3 160 tx ∧ arrIs h 26 1 64 st ∧ arrIs h 27 1 420 ys
theorem mdI_start (sc : Option ax_Ob) : mdI (ax_ls 9731 ax_L0 sc) [] [] [] (-1) := by
  have arr : ∀ a kd cap : Nat, (ax_ls 9731 ax_L0 sc).2.2 a = some (.inr (kd, List.replicate cap (ax_I 0))) → arrIs (ax_ls 9731 ax_L0 sc) a kd cap [] := fun a kd cap h1 => ⟨_, h1, List.length_replicate, by rw [List.length_nil, List.take_zero]; rfl, Nat.zero_le _⟩
  exact ⟨_, (ls_at 23).trans rfl, rfl, rfl, rfl, rfl, rfl, rfl, rfl, rfl, rfl, rfl, arr 25 3 160 ((ls_at 24).trans rfl), arr 26 1 64 ((ls_at 25).trans rfl), arr 27 1 420 ((ls_at 26).trans rfl)⟩
