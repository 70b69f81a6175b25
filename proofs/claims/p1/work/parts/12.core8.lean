section AX8
variable {G : ax_G} {p : Program} {l : Launch} {e : Env} {s : State} {m : MethodId} {args : Array Value} {below : List Frame} {meth : Method} {c : Code} {own : String} {cc : ByteArray} {nL : Nat} {ret : Option FieldType} {d : Nat} {h0 h : ax_Hp} {pc : Nat} {tv : List (Nat × ax_T)} {rest : List ax_T} {o : ax_O}
variable {R : Room} {T : State} {locs : List Loc} {cells slots : Nat}
variable {y : MethodName} {bytes : ByteArray} {maxL idx : Nat} {ry : Option FieldType} {As vrest : List Value} {hss : List (Nat × Nat × Nat × Nat)}
theorem ax_invSW (X : Stand p l e R s m args below meth c T locs cells slots) (B : ax_B G p s m meth c own cc nL ret) (hM : ax_MW y bytes maxL As.length ry hss) (hst : Cond.static y ∈ lw_tbl) (hl : ax_Lk own idx y) {g : JFrame} (hg : g.method = m) (hstack : g.stack = As.reverse ++ vrest) (hd : decode cc g.pc = .ok (.invokestatic idx, 3)) :
    ax_Inv p l e R s m args below meth c T locs cells slots g vrest y As := by
  have hK := B.2.2.2.2.2.2
  have hcode : (Cond.codeWith y bytes maxL ry hss).before args s = true := ax_word hK hM.1 rfl rfl
  obtain ⟨mk, methM, cM, hnamed, hmethM, -, -, -, -, -, -, hsigM⟩ := Cond.codeWith_spec hcode
  have hstatic : methM.isStatic = true := Cond.static_spec hnamed hmethM (ax_word (args := args) hK hst rfl rfl)
  obtain ⟨kP, hkP, -⟩ := className_of_methodNamed hnamed
  have hinitP : kP.init = .initialized := Cond.initialized_spec (findClass_of_methodNamed hnamed) hkP (ax_word (args := args) hK hM.2.1 rfl rfl)
  have hlen : As.length = methM.sig.parameters.length := by
    have h2 := hM.2.2.2.1
    rw [hsigM] at h2
    exact (Option.some.inj h2).symm
  rcases hl with hl | ⟨host, hl⟩
  · obtain ⟨vm₁, X₁, st⟩ := X.invokestatic B.1 B.2.2.2.2.2.1 (ax_word hK hl rfl rfl) hnamed hmethM hstatic hkP hinitP hM.2.2.1 (g := g) hg (argsL := As) (rest := vrest) hlen hstack (by rw [B.2.1]; exact hd)
    exact ⟨vm₁, mk, X₁, X₁.named hnamed, fun target h => st target (fun acts => by rw [doInvoke_state]; exact h)⟩
  · obtain ⟨vm₁, X₁, st⟩ := X.invokestaticNest B.1 B.2.2.2.2.2.1 (ax_word hK hl rfl rfl) hnamed hmethM hstatic hkP hinitP hM.2.2.1 (g := g) hg (argsL := As) (rest := vrest) hlen hstack (by rw [B.2.1]; exact hd)
    exact ⟨vm₁, mk, X₁, X₁.named hnamed, fun target h => st target (fun acts => by rw [doInvoke_state]; exact h)⟩
theorem ax_runW {cd : Cond} {av : List ax_T} {r : ax_Rs} {h1 : ax_Hp} {mk : MethodId} {g : JFrame} {ig : Instr} {len : Nat} (X : Stand p l e (ax_rm (d + 1) h0) s m args below meth c T locs cells slots) (hK : ax_K G s) {n0 : Nat} (hM : ax_MW y bytes maxL n0 ry hss) (hC : ax_C l G d y (.codeWith y bytes maxL ry hss) av h r h1) (hg : g.method = m) (hsize : g.locals.size = c.maxLocals)
    (hdg : decode c.code g.pc = .ok (ig, len)) (hW : 2 * g.monitorRoom + (g.stack.map fun v => v.category).sum ≤ 8) (hn : T.methodNamed? y = some mk) (hR : ax_R G h T.heap) (ha : cells + h0.1 = h.1) (hb : slots + h0.2.1 = h.2.1) :
    ∃ (oc : Outcome) (T' : State) (L : List Loc) (k n : Nat), Stand p l e (ax_rm (d + 1) h0) s m args below meth c T' (locs ++ L) (cells + k) (slots + n) ∧ ax_R G h1 T'.heap ∧ k + h.1 = h1.1 ∧ n + h.2.1 = h1.2.1 ∧ (∀ q ∈ L, G.2.2.1 ≤ q.base) ∧ ax_out G r oc T' ∧
      (∀ v, oc = .returned v → Steps p.tables e below (doInvoke e (T.setTop g) [] mk (av.map (ax_v G)).toArray).1 (T'.setTop { g with pc := g.pc + len, stack := v.toList ++ g.stack })) ∧
      (∀ x, oc = .threw x → Steps p.tables e below (doInvoke e (T.setTop g) [] mk (av.map (ax_v G)).toArray).1 ((T'.setTop g).pushFrame (.throwing x))) := by
  have hKT : ax_K G T := ax_K.warm X.warmed hK
  have hcw : (Cond.codeWith y bytes maxL ry hss).before (av.map (ax_v G)).toArray T = true := ax_word hKT hM.1 rfl rfl
  obtain ⟨mk2, methY, cY, hn2, hmY, hcY, -, hlY, -⟩ := Cond.codeWith_spec hcw
  cases hn.symm.trans hn2
  obtain ⟨kY, hkY, -⟩ := className_of_methodNamed hn
  have hinitY : kY.init = .initialized := Cond.initialized_spec (findClass_of_methodNamed hn) hkY (ax_word (args := args) hKT hM.2.1 rfl rfl)
  have hAt : At T g.method c below := by rw [hg]; exact X.here
  have hRc := hR.2.1
  have hRs := hR.2.2.1
  have hmax := hM.2.2.2.2
  have happ : (headSpec [Cond.codeWith y bytes maxL ry hss] (ax_rm d h)).appliesLoose y e.platform (T.calling g mk (av.map (ax_v G)).toArray) = true :=
    Spec.appliesLoose_calling (g := g) hAt hdg hn hkY hinitY
      (X.room_calling (g := g) (R' := ax_rm d h) hsize hmY hcY (by show d + 1 ≤ d + 1; omega) (by rw [hlY]; show _ + (maxL + 11) + 60 * d ≤ 60 * (d + 1); omega) (by show cells + (ax_CM - h.1) ≤ ax_CM - h0.1; omega) (by show slots + (ax_SM - h.2.1) ≤ ax_SM - h0.2.1; omega))
      (atoms_intro (fun w hw => by rw [List.mem_singleton.mp hw]; exact hcw))
  obtain ⟨mid, hmid⟩ := hAt.above
  have hfr : (T.setTop g).frames = (.java g :: mid) ++ below := by rw [State.frames_setTop' g hAt.top, hmid]; rfl
  have hKc : ax_K G (T.calling g mk (av.map (ax_v G)).toArray) := ax_K.warm (s := T) (U := T.calling g mk (av.map (ax_v G)).toArray) (State.WarmedH.refl T) hKT
  obtain ⟨o, s₂, hsteps, -, hend, hq⟩ := Steps.callFree hC p X.admits X.cas X.clock (acts := []) hfr happ ⟨rfl, hR, hKc⟩ trivial
  rw [State.frames_setTop' g hAt.top] at hend
  have hq2 : ax_out G r o s₂ ∧ ax_R G h1 s₂.heap ∧ ∃ (L : List Loc) (k n : Nat), ((T.calling g mk (av.map (ax_v G)).toArray).WarmedH s₂.vm ∧ (T.calling g mk (av.map (ax_v G)).toArray).sameButNew ({ s₂ with vm := (T.calling g mk (av.map (ax_v G)).toArray).vm } : State) L k n) ∧ k + h.1 = h1.1 ∧ n + h.2.1 = h1.2.1 ∧ ∀ q ∈ L, G.2.2.1 ≤ q.base := hq
  obtain ⟨hout, hR1, L, k, n, ⟨hW₂, e2, q2, q3, q4, q5, q6⟩, hk1, hn1, hL⟩ := hq2
  have e3 : s₂ = ({ (T.calling g mk (av.map (ax_v G)).toArray).setFrames s₂.frames with heap := s₂.heap, slotsUsed := s₂.slotsUsed } : State).setVm s₂.vm := by
    have : s₂ = ({ s₂ with vm := (T.calling g mk (av.map (ax_v G)).toArray).vm } : State).setVm s₂.vm := rfl
    rw [e2] at this
    exact this
  have hW' : T.WarmedH s₂.vm := hW₂
  obtain ⟨g₀, hg0⟩ := Option.isSome_iff_exists.mp hAt.top
  obtain ⟨r0, hr⟩ := State.topJava?_eq_some.mp hg0
  have hr' : (({ T with heap := s₂.heap, slotsUsed := s₂.slotsUsed } : State).setVm s₂.vm).frames = .java g₀ :: r0 := hr
  have hsame : T.sameButNew ({ T with heap := s₂.heap, slotsUsed := s₂.slotsUsed } : State) L k n := by
    refine ⟨?_, q2, q3, q4, q5, q6⟩
    obtain ⟨t, ht, -⟩ := State.frames_cons hr
    show ({ T with heap := s₂.heap, slotsUsed := s₂.slotsUsed } : State) = { T.setFrames T.frames with heap := s₂.heap, slotsUsed := s₂.slotsUsed }
    rw [State.setFrames_self ht]
  subst hg
  refine ⟨o, ({ T with heap := s₂.heap, slotsUsed := s₂.slotsUsed } : State).setVm s₂.vm, L, k, n,
    ⟨X.admits, X.cas, X.clock, X.frames, X.room, X.hears, X.method, X.code, (X.here.setHeapUsed s₂.heap s₂.slotsUsed).setVm hW'.alike, X.tail, State.WarmedH.trans X.warmed hW', X.limits, X.bytes, X.same.trans (hsame.setVm s.vm)⟩, hR1, hk1, hn1, hL, ax_out_of hout rfl rfl, ?_, ?_⟩
  · rintro v rfl
    obtain ⟨c₂, i₂, len₂, hc₂, hd₂, hf₂⟩ := hend
    have hcc : c₂ = c := by
      have h1 : s₂.code? g.method = T.code? g.method := by
        rw [State.code?_eq, State.code?_eq, hW'.alike.method?]
      exact Option.some.inj (hc₂.symm.trans (h1.trans hAt.code))
    subst hcc
    have hlen : len₂ = len := by rw [hdg] at hd₂; cases hd₂; rfl
    subst hlen
    have hs₂ : s₂ = (({ T with heap := s₂.heap, slotsUsed := s₂.slotsUsed } : State).setVm s₂.vm).setTop { g with pc := g.pc + len₂, stack := v.toList ++ g.stack } := by
      refine e3.trans ?_
      rw [hf₂, State.calling_eq hAt.top, State.setFrames_setFrames, State.setTop_of_frames _ hr', hr]
      rfl
    rw [← hs₂]
    exact hsteps
  · rintro v rfl
    have hf₂ : s₂.frames = .throwing v :: .java g :: T.frames.tail := hend
    have hs₂ : s₂ = ((({ T with heap := s₂.heap, slotsUsed := s₂.slotsUsed } : State).setVm s₂.vm).setTop g).pushFrame (.throwing v) := by
      refine e3.trans ?_
      rw [hf₂, State.calling_eq hAt.top, State.setFrames_setFrames, State.pushFrame, State.frames_setTop _ hr', State.setTop_of_frames _ hr', State.setFrames_setFrames, hr]
      rfl
    rw [← hs₂]
    exact hsteps
theorem ax_callGW {av : List ax_T} {st : List ax_T} {q : Option ax_T → ax_Hp → ax_O} {f : ax_O} {ig : Instr} {n : Nat} (B : ax_B G p s m meth c own cc nL ret) (E : c.exceptionTable.isEmpty = true) (hM : ax_MW y bytes maxL n ry hss) (hd : decode cc pc = .ok (ig, 3)) (hcat : ax_wt rest ≤ 8)
    (hinv : ∀ (T : State) (H : Heap) (locs : List Loc) (cells slots : Nat) (ls : Array Slot), T.heap = H → ax_R G h H → Stand p l e (ax_rm (d + 1) h0) s m args below meth c T locs cells slots → ax_Inv p l e (ax_rm (d + 1) h0) s m args below meth c T locs cells slots (F0 m pc ls (st.map (ax_v G))) (rest.map (ax_v G)) y (av.map (ax_v G)))
    (hf : ∀ r h1, f = some (r, h1) → ax_C l G d y (.codeWith y bytes maxL ry hss) av h r h1) (kk : ∀ v h1, ax_W G p l e s m args below meth c nL (d + 1) h0 (pc + 3) tv (v.toList ++ rest) h1 (q v h1)) : ax_W G p l e s m args below meth c nL (d + 1) h0 pc tv st h (ax_c f q) := by
  intro r h' e1 H locs cells slots ls hl hR a b cL T hT X
  rcases hfe : f with _ | ⟨r1, h1⟩
  · rw [hfe] at e1; cases e1
  · have hC := hf r1 h1 hfe
    obtain ⟨vm₁, mk, X₁, hn, st1⟩ := hinv T H locs cells slots ls hT hR X
    obtain ⟨oc, T', L, k, n2, X', hR1, hk1, hn1, hL, hout, go1, go2⟩ := ax_runW (cd := .codeWith y bytes maxL ry hss) X₁ B.2.2.2.2.2.2 hM hC (g := { F0 m pc ls (st.map (ax_v G)) with stack := rest.map (ax_v G) }) rfl (hl.1.trans B.2.2.1.symm) (by rw [B.2.1]; exact hd) (lv_room (m := m) (pc := pc) (ls := ls) (rest := rest.map (ax_v G)) (st := rest.map (ax_v G)) (by rw [ax_wt_eq]; exact hcat)) hn (by show ax_R G h T.heap; rw [hT]; exact hR) a b
    have cL1 : ∀ q ∈ locs ++ L, G.2.2.1 ≤ q.base := fun q hq => by
      rcases List.mem_append.mp hq with hq | hq
      · exact cL q hq
      · exact hL q hq
    rw [hfe] at e1
    cases r1 with
    | inl v =>
      have ho : oc = .returned (v.map (ax_v G)) := hout
      obtain ⟨t, s1, s2⟩ := kk v h1 r h' e1 T'.heap (locs ++ L) (cells + k) (slots + n2) ls hl hR1 (by omega) (by omega) cL1 T' rfl X'
      refine ⟨t, st1 t ((go1 _ ho).trans ?_), s2⟩
      have hst : (v.map (ax_v G)).toList ++ rest.map (ax_v G) = (v.toList ++ rest).map (ax_v G) := by cases v <;> rfl
      rw [hst]
      exact s1
    | inr x =>
      cases e1
      obtain ⟨ho, hx⟩ : oc = .threw (ax_ad G x.2) ∧ ax_exc x.1 (ax_ad G x.2) T' := hout
      obtain ⟨t, s1, s2⟩ := ax_thr X' E B.2.2.2.2.1 (g := { F0 m pc ls (st.map (ax_v G)) with stack := rest.map (ax_v G) }) rfl rfl rfl hR1 hx (by omega) (by omega) cL1
      exact ⟨t, st1 t ((go2 _ ho).trans s1), s2⟩
theorem ax_callSW {av : List ax_T} {st : List ax_T} {q : Option ax_T → ax_Hp → ax_O} {f : ax_O} (B : ax_B G p s m meth c own cc nL ret) (E : c.exceptionTable.isEmpty = true) (hM : ax_MW y bytes maxL av.length ry hss) (hs : Cond.static y ∈ lw_tbl) (hl : ax_Lk own idx y) (hd : decode cc pc = .ok (.invokestatic idx, 3)) (hst : st = av.reverse ++ rest) (hcat : ax_wt rest ≤ 8)
    (hf : ∀ r h1, f = some (r, h1) → ax_C l G d y (.codeWith y bytes maxL ry hss) av h r h1) (kk : ∀ v h1, ax_W G p l e s m args below meth c nL (d + 1) h0 (pc + 3) tv (v.toList ++ rest) h1 (q v h1)) : ax_W G p l e s m args below meth c nL (d + 1) h0 pc tv st h (ax_c f q) := by
  subst hst
  refine ax_callGW B E hM hd hcat (fun T H locs cells slots ls hT hR X => ?_) hf kk
  refine ax_invSW (maxL := maxL) (bytes := bytes) (ry := ry) (hss := hss) X B (by rw [List.length_map]; exact hM) hs hl rfl ?_ hd
  rw [List.map_append, List.map_reverse]
theorem ax_callSWi {av st : List ax_T} {q : Int32 → ax_Hp → ax_O} {f : ax_O} (B : ax_B G p s m meth c own cc nL ret) (E : c.exceptionTable.isEmpty = true) (hM : ax_MW y bytes maxL av.length ry hss) (hs : Cond.static y ∈ lw_tbl) (hl : ax_Lk own idx y) (hd : decode cc pc = .ok (.invokestatic idx, 3)) (hst : st = av.reverse ++ rest) (hcat : ax_wt rest ≤ 8)
    (hf : ∀ r h1, f = some (r, h1) → ax_C l G d y (.codeWith y bytes maxL ry hss) av h r h1) (kk : ∀ v h1, ax_W G p l e s m args below meth c nL (d + 1) h0 (pc + 3) tv (ax_I v :: rest) h1 (q v h1)) : ax_W G p l e s m args below meth c nL (d + 1) h0 pc tv st h (ax_ci f q) :=
  ax_eq (ax_ci_eq f q) (ax_callSW B E hM hs hl hd hst hcat hf (fun v h1 => by rcases v with _ | (v | v | v); exact ax_none; exact kk v h1; exact ax_none; exact ax_none))
end AX8
