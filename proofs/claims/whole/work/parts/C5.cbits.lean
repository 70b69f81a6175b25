/-- b holds the letters of P, base first -/
def bst (b : Int32) (base : Int) (P : Int → Prop) : Prop := ∀ k : Nat, k < 26 → (b.toBitVec.getLsbD k = true ↔ P (base + k))
def sbit (base x : Int) : Int32 := 1 <<< ((Int32.ofInt x - Int32.ofInt base) &&& 31)
theorem bmask : ∀ k : Nat, k < 26 → ((1 : Int32) <<< (Int32.ofInt (k : Int) &&& 31)).toBitVec = BitVec.twoPow 32 k := by decide
theorem sbit_e {base x : Int} {k : Nat} (hx : x = base + k) (hk : k < 26) : (sbit base x).toBitVec = BitVec.twoPow 32 k := by
  unfold sbit
  rw [zi_sub, show x - base = (k : Int) by omega]
  exact bmask k hk
theorem sbit_and {b : Int32} {base x : Int} {P : Int → Prop} (h : bst b base P) (x0 : base ≤ x) (x1 : x < base + 26) : (b &&& sbit base x = 0) ↔ ¬ P x := by
  obtain ⟨k, hk⟩ : ∃ k : Nat, x = base + k := ⟨(x - base).toNat, by omega⟩
  have e := sbit_e hk (by omega)
  have hb := h k (by omega)
  rw [← hk] at hb
  rw [← hb, ← Int32.toBitVec_inj, Int32.toBitVec_and, e, BitVec.and_twoPow]
  by_cases c : b.toBitVec.getLsbD k = true
  · rw [if_pos c]
    constructor
    · intro z
      have := congrArg (fun y => BitVec.getLsbD y k) z
      have t : BitVec.getLsbD (BitVec.twoPow 32 k) k = true := by rw [BitVec.getLsbD_twoPow]; simp; omega
      have u : BitVec.getLsbD (0 : Int32).toBitVec k = false := by rw [show (0 : Int32).toBitVec = 0#32 from rfl, BitVec.getLsbD_zero]
      exact absurd (t.symm.trans (this.trans u)) (by decide)
    · intro z; exact absurd c z
  · rw [if_neg c]
    exact ⟨fun _ => c, fun _ => rfl⟩
theorem sbit_or {b : Int32} {base x : Int} {P : Int → Prop} (h : bst b base P) (x0 : base ≤ x) (x1 : x < base + 26) : bst (b ||| sbit base x) base (fun y => y = x ∨ P y) := by
  obtain ⟨k, hk⟩ : ∃ k : Nat, x = base + k := ⟨(x - base).toNat, by omega⟩
  have e := sbit_e hk (by omega)
  intro j hj
  rw [Int32.toBitVec_or, e, BitVec.getLsbD_or, BitVec.getLsbD_twoPow, Bool.or_eq_true, h j hj, Bool.and_eq_true, decide_eq_true_eq, decide_eq_true_eq]
  constructor
  · rintro (z | ⟨_, z⟩)
    · exact Or.inr z
    · exact Or.inl (by omega)
  · rintro (z | z)
    · exact Or.inr ⟨by omega, by omega⟩
    · exact Or.inl z
theorem bst_0 {base : Int} {P : Int → Prop} (h : ∀ y, ¬ P y) : bst 0 base P := fun k _ => by
  rw [show (0 : Int32).toBitVec = 0#32 from rfl, BitVec.getLsbD_zero]
  exact ⟨fun z => absurd z (by decide), fun z => absurd z (h _)⟩
theorem bst_of {b : Int32} {base : Int} {P Q : Int → Prop} (h : bst b base P) (e : ∀ y, P y ↔ Q y) : bst b base Q := fun k hk => (h k hk).trans (e _)
theorem bst_n0 {b : Int32} {base x : Int} {P : Int → Prop} (h : bst b base P) (x0 : base ≤ x) (x1 : x < base + 26) (hx : P x) : ¬ b = 0 := fun z => by
  have := (sbit_and h x0 x1).mp (by rw [z]; exact Int32.zero_and)
  exact this hx
theorem sbit_n0 {base x : Int} (x0 : base ≤ x) (x1 : x < base + 26) : ¬ sbit base x = 0 := by
  have h := sbit_or (b := 0) (base := base) (x := x) (P := fun _ => False) (bst_0 (fun _ z => z)) x0 x1
  rw [Int32.zero_or] at h
  exact bst_n0 h x0 x1 (Or.inl rfl)
theorem De_sbit {m : Nat} {h : ax_Hp} {x : Int} (x0 : -1 ≤ x) (x1 : x < 128) : ax_F (m + 2) 32 [ax_I (Int32.ofInt x)] h = some (.inl (some (ax_I (if isSm x then sbit 97 x else 0))), h) := by
  rw [Desk_smallLetterBit_F]
  unfold Desk_smallLetterBit_b
  rw [pl_ci (De_small x0 x1)]
  by_cases c : isSm x
  · rw [if_pos c, if_pos c, if_neg (show ¬ Int32.ofInt 1 = 0 from by decide)]; rfl
  · rw [if_neg c, if_neg c, if_pos (show Int32.ofInt 0 = 0 from rfl)]; rfl
abbrev isCa (x : Int) : Prop := 65 ≤ x ∧ x ≤ 90
theorem De_cbit {m : Nat} {h : ax_Hp} {x : Int} (x0 : -1 ≤ x) (x1 : x < 128) : ax_F (m + 1) 38 [ax_I (Int32.ofInt x)] h = some (.inl (some (ax_I (if isCa x then sbit 65 x else 0))), h) := by
  rw [Desk_capitalBit_F]
  unfold Desk_capitalBit_b
  simp (disch := omega) only [show (65 : Int32) = Int32.ofInt 65 from rfl, show (90 : Int32) = Int32.ofInt 90 from rfl, zi_lt]
  by_cases c1 : x < 65
  · rw [if_pos c1, if_neg (show ¬ isCa x from fun z => by omega)]; rfl
  · rw [if_neg c1]
    by_cases c2 : 90 < x
    · rw [if_pos c2, if_neg (show ¬ isCa x from fun z => by omega)]; rfl
    · rw [if_neg c2, if_pos (show isCa x from ⟨by omega, by omega⟩)]; rfl
