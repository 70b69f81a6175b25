def ax_oi (w : Option ax_T) (k : Int32 → ax_O) : ax_O := match w with
  | some (.inl v) => k v
  | _ => none
def ax_ol (w : Option ax_T) (k : Int64 → ax_O) : ax_O := match w with
  | some (.inr (.inl v)) => k v
  | _ => none
def ax_ov (w : Option ax_T) (k : ax_O) : ax_O := match w with
  | none => k
  | _ => none
section AX9
variable {G : ax_G} {p : Program} {l : Launch} {e : Env} {s : State} {m : MethodId} {args : Array Value} {below : List Frame} {meth : Method} {c : Code} {nL : Nat} {d : Nat} {h0 h : ax_Hp} {pc : Nat} {tv : List (Nat × ax_T)} {rest : List ax_T}
theorem ax_Woi {k : Int32 → ax_O} (kk : ∀ v, ax_W G p l e s m args below meth c nL d h0 pc tv (ax_I v :: rest) h (k v)) (w : Option ax_T) : ax_W G p l e s m args below meth c nL d h0 pc tv (w.toList ++ rest) h (ax_oi w k) := by
  rcases w with _ | (v | v | v)
  · exact ax_none
  · exact kk v
  · exact ax_none
  · exact ax_none
theorem ax_Wol {k : Int64 → ax_O} (kk : ∀ v, ax_W G p l e s m args below meth c nL d h0 pc tv (ax_L v :: rest) h (k v)) (w : Option ax_T) : ax_W G p l e s m args below meth c nL d h0 pc tv (w.toList ++ rest) h (ax_ol w k) := by
  rcases w with _ | (v | v | v)
  · exact ax_none
  · exact ax_none
  · exact kk v
  · exact ax_none
theorem ax_Wov {k : ax_O} (kk : ax_W G p l e s m args below meth c nL d h0 pc tv rest h k) (w : Option ax_T) : ax_W G p l e s m args below meth c nL d h0 pc tv (w.toList ++ rest) h (ax_ov w k) := by
  rcases w with _ | v
  · exact kk
  · exact ax_none
end AX9
