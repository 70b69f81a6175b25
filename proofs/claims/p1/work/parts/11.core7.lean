/-- behind a call in a method with handlers -/
def ax_cx (f : ax_O) (k : Option ax_T → ax_Hp → ax_O) (kx : Nat → Nat → ax_Hp → ax_O) : ax_O := match f with
  | some (.inl v, h) => k v h
  | some (.inr x, h) => kx x.1 x.2 h
  | none => none
section AX7
variable {G : ax_G} {p : Program} {l : Launch} {e : Env} {s : State} {m : MethodId} {args : Array Value} {below : List Frame} {meth : Method} {c : Code} {own : String} {cc : ByteArray} {nL : Nat} {ret : Option FieldType} {d : Nat} {h0 h : ax_Hp} {pc : Nat} {tv : List (Nat × ax_T)} {rest : List ax_T} {o : ax_O}
variable {y : MethodName} {bytes : ByteArray} {maxL idx : Nat} {ry : Option FieldType}
/-- the row of the table that takes an exception of kind k -/
def ax_Cat (s : State) (c : Code) (own : String) (pc k hp : Nat) : Prop := ∃ (pre : List ExceptionTableEntry) (x : ExceptionTableEntry) (suf : List ExceptionTableEntry), c.exceptionTable.toList = pre ++ x :: suf ∧ x.handlerPc = hp ∧ covers x pc = true ∧ x.catchType ≠ 0 ∧ Cond.classLink own x.catchType (ax_exn k) ∈ lw_tbl ∧ Cond.castable (ax_exn k) (ax_exn k) ∈ lw_tbl ∧
  ∀ z ∈ pre, covers z pc = false ∨ (z.catchType ≠ 0 ∧ ∃ nm : String, Cond.classLink own z.catchType nm ∈ lw_tbl ∧ va_Nc (ax_exn k) nm s)
theorem ax_callH {av : List ax_T} {st : List ax_T} {q : Option ax_T → ax_Hp → ax_O} {qx : Nat → Nat → ax_Hp → ax_O} {f : ax_O} {ig : Instr} {n : Nat} (B : ax_B G p s m meth c own cc nL ret) (hM : ax_M y bytes maxL n ry) (hd : decode cc pc = .ok (ig, 3)) (hcat : ax_wt rest ≤ 8)
    (hinv : ∀ (T : State) (H : Heap) (locs : List Loc) (cells slots : Nat) (ls : Array Slot), T.heap = H → ax_R G h H → Stand p l e (ax_rm (d + 1) h0) s m args below meth c T locs cells slots → ax_Inv p l e (ax_rm (d + 1) h0) s m args below meth c T locs cells slots (F0 m pc ls (st.map (ax_v G))) (rest.map (ax_v G)) y (av.map (ax_v G)))
    (hf : ∀ r h1, f = some (r, h1) → ax_C l G d y (.code y bytes maxL ry) av h r h1) (kk : ∀ v h1, ax_W G p l e s m args below meth c nL (d + 1) h0 (pc + 3) tv (v.toList ++ rest) h1 (q v h1))
    (kx : ∀ k a h1, qx k a h1 = none ∨ ∃ hp, ax_Cat s c own pc k hp ∧ ax_W G p l e s m args below meth c nL (d + 1) h0 hp tv [ax_A (some a)] h1 (qx k a h1)) : ax_W G p l e s m args below meth c nL (d + 1) h0 pc tv st h (ax_cx f q qx) := by
  intro r h' e1 H locs cells slots ls hl hR a b cL T hT X
  rcases hfe : f with _ | ⟨r1, h1⟩
  · rw [hfe] at e1; cases e1
  · have hC := hf r1 h1 hfe
    obtain ⟨vm₁, mk, X₁, hn, st1⟩ := hinv T H locs cells slots ls hT hR X
    obtain ⟨oc, T', L, k, n2, X', hR1, hk1, hn1, hL, hout, go1, go2⟩ := ax_run (cd := .code y bytes maxL ry) X₁ B.2.2.2.2.2.2 hM hC (g := { F0 m pc ls (st.map (ax_v G)) with stack := rest.map (ax_v G) }) rfl (hl.1.trans B.2.2.1.symm) (by rw [B.2.1]; exact hd) (lv_room (m := m) (pc := pc) (ls := ls) (rest := rest.map (ax_v G)) (st := rest.map (ax_v G)) (by rw [ax_wt_eq]; exact hcat)) hn (by show ax_R G h T.heap; rw [hT]; exact hR) a b
    have cL1 : ∀ q ∈ locs ++ L, G.2.2.1 ≤ q.base := fun q hq => by
      rcases List.mem_append.mp hq with hq | hq
      · exact cL q hq
      · exact hL q hq
    rw [hfe] at e1
    cases r1 with
    | inl v =>
      have ho : oc = .returned (v.map (ax_v G)) := hout
      obtain ⟨t, s1, s2⟩ := kk v h1 r h' e1 T'.heap (locs ++ L) (cells + k) (slots + n2) ls hl hR1 (by omega) (by omega) cL1 T' rfl X'
      refine ⟨t, st1 t ((go1 _ ho).trans ?_), s2⟩
      have hst : (v.map (ax_v G)).toList ++ rest.map (ax_v G) = (v.toList ++ rest).map (ax_v G) := by cases v <;> rfl
      rw [hst]
      exact s1
    | inr x =>
      obtain ⟨ho, ce, g1, g2, g3⟩ : oc = .threw (ax_ad G x.2) ∧ ax_exc x.1 (ax_ad G x.2) T' := hout
      have e1 : qx x.1 x.2 h1 = some (r, h') := e1
      rcases kx x.1 x.2 h1 with hno | ⟨hp, ⟨pre, z, suf, c1, c2, c3, c4, c5, c6, c7⟩, kw⟩
      · rw [hno] at e1; cases e1
      · have hK := B.2.2.2.2.2.2
        have hw := kw r h' e1 T'.heap (locs ++ L) (cells + k) (slots + n2) ls hl hR1 (by omega) (by omega) cL1
        subst c2
        have hcl : s.vm.findClass (ax_exn x.1) = some ce.cls := by rw [← X'.warmed.alike.findClass]; exact g3
        have hv := vx_catch (rest := rest.map (ax_v G)) (pc := pc) (ls := ls) B.2.2.2.2.2.1 pre z suf c1 (fun u hu => (c7 u hu).imp id (fun ⟨u0, nm, u1, u2⟩ => ⟨u0, nm, ax_word hK u1 rfl rfl, u2⟩)) c3 c4 (ax_word hK c5 rfl rfl) (ax_word hK c6 rfl rfl) g1 g2 hcl hw
        obtain ⟨t, s1, s2⟩ := hv T' rfl X'
        exact ⟨t, st1 t ((go2 _ ho).trans s1), s2⟩
theorem ax_callVH {av : List ax_T} {st : List ax_T} {q : Option ax_T → ax_Hp → ax_O} {qx : Nat → Nat → ax_Hp → ax_O} {f : ax_O} {ci : Nat} {C : String} {T : u_T} {N : Nat} {ty0 : Nat → FieldType} {x : Option Nat} (B : ax_B G p s m meth c own cc nL ret) (hM : ax_M y bytes maxL av.length ry) (hC : ax_Cl ci C T N ty0) (hyC : y.cls = C) (hin : Cond.instanceMethod y ∈ lw_tbl) (hsel : Cond.selects y.cls y y ∈ lw_tbl) (hl : ax_Lk own idx y) (hd : decode cc pc = .ok (.invokevirtual idx, 3)) (hst : st = av.reverse ++ ax_A x :: rest) (hcat : ax_wt rest ≤ 8)
    (hf : ∀ r h1, f = some (r, h1) → ax_C l G d y (.code y bytes maxL ry) (ax_A x :: av) h r h1) (kk : ∀ v h1, ax_W G p l e s m args below meth c nL (d + 1) h0 (pc + 3) tv (v.toList ++ rest) h1 (q v h1))
    (kx : ∀ k a h1, qx k a h1 = none ∨ ∃ hp, ax_Cat s c own pc k hp ∧ ax_W G p l e s m args below meth c nL (d + 1) h0 hp tv [ax_A (some a)] h1 (qx k a h1)) : ax_W G p l e s m args below meth c nL (d + 1) h0 pc tv st h (ax_on h x ci (ax_cx f q qx)) := by
  intro r h' e1
  obtain ⟨fs, hfs, e2⟩ := Option.bind_eq_some_iff.mp e1
  obtain ⟨b, rfl, hm⟩ := ax_obj_spec hfs
  suffices main : ax_W G p l e s m args below meth c nL (d + 1) h0 pc tv st h (ax_cx f q qx) from main r h' e2
  subst hst
  refine ax_callH B hM hd hcat (fun T H locs cells slots ls hT hR X => ?_) hf kk kx
  obtain ⟨hge, r1, hr1, hlen, cell, q1, q2, q3, q4⟩ := hR.2.2.2.2.2 b _ hm
  have hcl : s.vm.findClass y.cls = some cell.cls := by
    rw [hyC, q2]
    exact (B.2.2.2.2.2.2.1.1 ci _ hC.1).2.1
  refine ax_invV (maxL := maxL) (bytes := bytes) (ry := ry) (As := av.map (ax_v G)) (b := ax_ad G b) (cellB := cell) X B (by rw [List.length_map]; exact hM) hin hsel hl (by rw [hT]; exact q1) q3 hcl rfl ?_ hd
  simp only [List.map_append, List.map_reverse, List.map_cons]
  rfl
theorem ax_enterW {hs : List (Nat × Nat × Nat × Nat)} {av : List ax_T} {r : ax_Rs} {h' : ax_Hp} (hy : plainName y.cls = true) (hlen : ax_wt av ≤ maxL) (ho : o = some (r, h'))
    (body : ∀ (p : Program) (e : Env) (s : State) (m : MethodId) (args : Array Value) (below : List Frame) (meth : Method) (c : Code), ax_B G p s m meth c y.cls bytes maxL ret → c.exceptionTable.toList.map (fun h => (h.startPc, h.endPc, h.handlerPc, h.catchType)) = hs → ax_W G p l e s m args below meth c maxL d h 0 (ax_args 0 av) [] h o) :
    ax_C l G d y (.codeWith y bytes maxL ret hs) av h r h' := by
  refine MetFree.of_bodyS (code := bytes) (maxLocals := maxL) (ret := ret) hy ?_ ?_
  · intro args s m hp hn
    obtain ⟨m2, meth, c, h0, h1, h2, h3, h4, -, h5, h6, -⟩ := Cond.codeWith_spec (atoms_spec (ws := [.codeWith y bytes maxL ret hs]) hp _ List.mem_cons_self)
    cases hn.symm.trans h0
    exact ⟨meth, c, h1, h2, h3, h4, h5, h6⟩
  · intro p e s m args below meth c s₁ B hml hP _
    obtain ⟨rfl, hR, hK⟩ := hP
    have hh0 : s₁.heap = s.heap := by rw [B.state]; rfl
    obtain ⟨m2, meth2, c2, g0, g1, g2, -, -, g5, -⟩ := Cond.codeWith_spec (atoms_spec (ws := [.codeWith y bytes maxL ret hs]) B.pre _ List.mem_cons_self)
    cases B.named.symm.trans g0
    cases B.method.symm.trans g1
    cases (Stand.of_body B).code.symm.trans g2
    have hl := lv_entry (av.map (ax_v G)) (n := maxL) (by rw [ax_lgl]; exact hlen)
    rw [← ax_args_m G av 0] at hl
    have K := body p e s m (av.map (ax_v G)).toArray below meth c ⟨B.exec, B.bytes, hml, B.returns, B.notSynchronized, findClass_of_methodNamed B.named, hK⟩ g5 r h' ho s.heap [] 0 0 _ hl hR (by omega) (by omega) (fun q hq => by cases hq)
    obtain ⟨t, a1, o2, b1, b2, b3, b4, b5⟩ := K s₁ hh0 (Stand.of_body B)
    rw [lg_entry_eq]
    exact ⟨t, o2, a1, b1, b2, b3, b4, b5⟩
theorem ax_cat1 {c : Code} {a b hp ct k : Nat} (HS : c.exceptionTable.toList.map (fun h => (h.startPc, h.endPc, h.handlerPc, h.catchType)) = [(a, b, hp, ct)]) (h1 : (a ≤ pc && pc < b) = true) (h2 : ct ≠ 0) (h3 : Cond.classLink own ct (ax_exn k) ∈ lw_tbl) (h4 : Cond.castable (ax_exn k) (ax_exn k) ∈ lw_tbl) : ax_Cat s c own pc k hp := by
  rcases ht : c.exceptionTable.toList with _ | ⟨x, _ | ⟨z, t⟩⟩
  · rw [ht] at HS; cases HS
  · rw [ht] at HS
    simp only [List.map_cons, List.map_nil, List.cons.injEq, Prod.mk.injEq, and_true] at HS
    obtain ⟨rfl, rfl, rfl, rfl⟩ := HS
    exact ⟨[], x, [], ht, rfl, h1, h2, h3, h4, fun z hz => by cases hz⟩
  · rw [ht] at HS; simp at HS
theorem ax_cat20 {c : Code} {a b hp ct a2 b2 hp2 ct2 k : Nat} (HS : c.exceptionTable.toList.map (fun h => (h.startPc, h.endPc, h.handlerPc, h.catchType)) = [(a, b, hp, ct), (a2, b2, hp2, ct2)]) (h1 : (a ≤ pc && pc < b) = true) (h2 : ct ≠ 0) (h3 : Cond.classLink own ct (ax_exn k) ∈ lw_tbl) (h4 : Cond.castable (ax_exn k) (ax_exn k) ∈ lw_tbl) : ax_Cat s c own pc k hp := by
  rcases ht : c.exceptionTable.toList with _ | ⟨x, _ | ⟨z, _ | ⟨w, t⟩⟩⟩
  · rw [ht] at HS; cases HS
  · rw [ht] at HS; simp at HS
  · rw [ht] at HS
    simp only [List.map_cons, List.map_nil, List.cons.injEq, Prod.mk.injEq, and_true] at HS
    obtain ⟨⟨rfl, rfl, rfl, rfl⟩, -⟩ := HS
    exact ⟨[], x, [z], ht, rfl, h1, h2, h3, h4, fun z hz => by cases hz⟩
  · rw [ht] at HS; simp at HS
theorem ax_cat21 {c : Code} {a b hp ct a2 b2 hp2 ct2 k : Nat} {nm : String} (HS : c.exceptionTable.toList.map (fun h => (h.startPc, h.endPc, h.handlerPc, h.catchType)) = [(a, b, hp, ct), (a2, b2, hp2, ct2)]) (h1 : (a2 ≤ pc && pc < b2) = true) (h2 : ct2 ≠ 0) (h3 : Cond.classLink own ct2 (ax_exn k) ∈ lw_tbl) (h4 : Cond.castable (ax_exn k) (ax_exn k) ∈ lw_tbl) (h5 : ct ≠ 0) (h6 : Cond.classLink own ct nm ∈ lw_tbl) (h7 : va_Nc (ax_exn k) nm s) : ax_Cat s c own pc k hp2 := by
  rcases ht : c.exceptionTable.toList with _ | ⟨x, _ | ⟨z, _ | ⟨w, t⟩⟩⟩
  · rw [ht] at HS; cases HS
  · rw [ht] at HS; simp at HS
  · rw [ht] at HS
    simp only [List.map_cons, List.map_nil, List.cons.injEq, Prod.mk.injEq, and_true] at HS
    obtain ⟨⟨rfl, rfl, rfl, rfl⟩, rfl, rfl, rfl, rfl⟩ := HS
    exact ⟨[x], z, [], ht, rfl, h1, h2, h3, h4, fun u hu => by
      rw [List.mem_singleton.mp hu]
      exact Or.inr ⟨h5, nm, h6, h7⟩⟩
  · rw [ht] at HS; simp at HS
/-- a called method with handlers of its own -/
def ax_MW (y : MethodName) (bytes : ByteArray) (maxL n : Nat) (ret : Option FieldType) (hs : List (Nat × Nat × Nat × Nat)) : Prop := Cond.codeWith y bytes maxL ret hs ∈ lw_tbl ∧ Cond.initialized y.cls ∈ lw_tbl ∧ (y.cls ≠ "java/lang/invoke/MethodHandle" ∧ y.cls ≠ "java/lang/invoke/VarHandle") ∧ (parseMethodDescriptor y.desc).map (fun d => d.parameters.length) = some n ∧ maxL ≤ 40
end AX7
