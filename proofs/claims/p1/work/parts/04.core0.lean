def ax_CM : Nat := 600002
def ax_SM : Nat := 7302232
/-- the kinds of arrays: 0 the script alone -/
def ax_kty : Nat → FieldType
  | 0 => .int
  | 1 => .int
  | 2 => .long
  | 3 => .char
  | 4 => .boolean
  | 5 => .object "SchemaDesk$Subject"
  | 6 => .object "SchemaDesk$Schema"
  | _ => .int
def ax_nk : Nat := 7
/-- the exceptions that are thrown, by kind -/
def ax_exn : Nat → String
  | 0 => "java/lang/IllegalArgumentException"
  | 1 => "java/lang/IllegalStateException"
  | _ => "java/lang/IndexOutOfBoundsException"
/-- words that hold as long as the tables only get warmer -/
def ax_ok (w : Cond) : Bool := (w.onTables && w.keeps) || (match w with | .arrayClass _ => true | .fieldLinkNest .. => true | .methodLinkNest .. => true | .arrayOver (.object _) => true | .declares _ => true | .castable .. => true | _ => false)
/-- what a run knows of the tables, and of what lies below its own cells -/
def ax_K (G : va_G × (Nat → ClassId) × Nat × Nat × (Nat → Option Cell)) (s : State) : Prop := va_K G.1 vwCl [] s ∧ (∀ w ∈ lw_tbl, ax_ok w = true → w.before #[] s = true) ∧ (∀ k, k < ax_nk → ArrOfT s (G.2.1 k) (ax_kty k) ∧ (k ≠ 0 → va_RA s (G.2.1 k) (ax_kty k))) ∧
  (∀ U : State, s.vm.Alike U.vm → (∀ q : Nat, q < G.2.2.1 → U.heap[q]? = G.2.2.2.2 q) → vx_Zq Bundle.tN "UNASSIGNED_STACK" Bundle.steD (fun q => G.2.2.1 ≤ q) U U.heap ∧ vx_Zq Bundle.tN "SUPPRESSED_SENTINEL" Bundle.listD (fun q => G.2.2.1 ≤ q) U U.heap) ∧ va_Nc (ax_exn 1) (ax_exn 0) s
theorem ax_Nc_moved {C D : String} {u U : State} (hvm : u.vm.Alike U.vm) (h : va_Nc C D u) : va_Nc C D U := by
  obtain ⟨c, t, h1, h2, h3⟩ := h
  exact ⟨c, t, by rw [hvm.findClass]; exact h1, by rw [hvm.findClass]; exact h2, by rw [hvm.assignable]; exact h3⟩
theorem ax_K.warm {G : va_G × (Nat → ClassId) × Nat × Nat × (Nat → Option Cell)} {s U : State} (hW : s.WarmedH U.vm) (h : ax_K G s) : ax_K G U := by
  obtain ⟨h1, h2, h3, h4, h5⟩ := h
  refine ⟨va_K.moved hW.alike h1, fun w hw ho => ?_, fun k hk => ?_, fun V hV hl => h4 V (hW.alike.trans hV) hl, ax_Nc_moved hW.alike h5⟩
  · have hb := h2 w hw ho
    unfold ax_ok at ho
    rw [Bool.or_eq_true] at ho
    rcases ho with ho | ho
    · exact word_at hW (Or.inl ho) hb
    · split at ho
      · exact word_at hW (Or.inr ⟨_, rfl⟩) hb
      · exact va_Nw.warmF hW hb
      · exact va_Nw.warmM hW hb
      · exact va_AO.moved hW.alike hb
      · exact va_Nw.warmD hW hb
      · exact va_tabs rfl (rfl : (s.setVm U.vm).vm = U.vm) (by rw [Cond.castable_setVm hW.alike]; exact hb)
      · cases ho
  · exact ⟨arrOfT_moved hW.alike (h3 k hk).1, fun h0 => ((h3 k hk).2 h0).moved hW.alike⟩
theorem ax_arrw {G : va_G × (Nat → ClassId) × Nat × Nat × (Nat → Option Cell)} {s : State} (hK : ax_K G s) {ty : FieldType} (hw : Cond.arrayClass ty ∈ lw_tbl) {args : Array Value} : (Cond.arrayClass ty).before args s = true := by
  have h := hK.2.1 _ hw (by unfold ax_ok; rw [Bool.or_eq_true]; exact Or.inr rfl)
  have e : (Cond.arrayClass ty).before args s = (Cond.arrayClass ty).before #[] s := rfl
  rw [e]; exact h
def ax_exc (k a : Nat) (t : State) : Prop := ∃ cell : Cell, t.heap[a]? = some cell ∧ cell.vm = .none ∧ t.vm.findClass (ax_exn k) = some cell.cls
theorem ax_exc_of {k a : Nat} {t u : State} (h : ax_exc k a t) (h1 : u.heap = t.heap) (h2 : u.vm = t.vm) : ax_exc k a u := by
  obtain ⟨cell, g1, g2, g3⟩ := h
  exact ⟨cell, by rw [h1]; exact g1, g2, by rw [h2]; exact g3⟩
