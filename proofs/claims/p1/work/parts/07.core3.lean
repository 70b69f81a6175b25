/-- how many words values take -/
def ax_wt (st : List ax_T) : Nat := (st.map fun t => if ax_two t then 2 else 1).sum
theorem ax_catn (G : ax_G) (t : ax_T) : (ax_v G t).category = if ax_two t then 2 else 1 := by
  rcases t with x | x | x | x <;> rfl
theorem ax_wt_eq (G : ax_G) (st : List ax_T) : ((st.map (ax_v G)).map fun v => v.category).sum = ax_wt st := by
  unfold ax_wt
  rw [List.map_map]
  congr 1
  apply List.map_congr_left
  intro t _
  exact ax_catn G t
theorem ax_lgl (G : ax_G) : ∀ st : List ax_T, (lg_sl (st.map (ax_v G))).length = ax_wt st
  | [] => rfl
  | t :: st => by
    have ih := ax_lgl G st
    unfold lg_sl at ih ⊢
    rw [List.map_cons, List.flatMap_cons, List.length_append, ih]
    show _ + ax_wt st = (if ax_two t then 2 else 1) + ax_wt st
    congr 1
    have hc := ax_catn G t
    cases h2 : ax_two t
    · rw [h2] at hc
      rw [if_neg (by rw [hc]; decide)]; rfl
    · rw [h2] at hc
      rw [if_pos (by rw [hc]; decide)]; rfl
theorem ax_fitO {G : ax_G} {n : String} {x : Option Nat} : fits (.object n) (ax_v G (ax_A x)) = true := by cases x <;> rfl
theorem ax_fitR {G : ax_G} {t : FieldType} {x : Option Nat} : fits (.array t) (ax_v G (ax_A x)) = true := by cases x <;> rfl
theorem ax_narO {G : ax_G} {n : String} {x : Option Nat} : narrow (.object n) (ax_v G (ax_A x)) = ax_v G (ax_A x) := by cases x <;> rfl
theorem ax_narR {G : ax_G} {t : FieldType} {x : Option Nat} : narrow (.array t) (ax_v G (ax_A x)) = ax_v G (ax_A x) := by cases x <;> rfl
/-- what a callee may be asked: method by number, arguments, picture -/
abbrev ax_Cf : Type := Nat → List ax_T → ax_Hp → ax_O
/-- a receiver of class ci -/
def ax_on (h : ax_Hp) (x : Option Nat) (ci : Nat) (k : ax_O) : ax_O := (ax_obj h x ci).bind fun _ => k
theorem ax_out_of {G : ax_G} {r : ax_Rs} {o : Outcome} {t u : State} (h : ax_out G r o t) (h1 : u.heap = t.heap) (h2 : u.vm = t.vm) : ax_out G r o u := by
  cases r with
  | inl v => exact h
  | inr x => exact ⟨h.1, ax_exc_of h.2 h1 h2⟩
section AX3
variable {G : ax_G} {p : Program} {l : Launch} {e : Env} {s : State} {m : MethodId} {args : Array Value} {below : List Frame} {meth : Method} {c : Code} {own : String} {cc : ByteArray} {nL : Nat} {ret : Option FieldType} {d : Nat} {h0 h : ax_Hp} {pc : Nat} {tv : List (Nat × ax_T)} {rest : List ax_T} {o : ax_O}
theorem ax_fin {v : Option ax_T} {H : Heap} {locs : List Loc} {cells slots : Nat} {g : JFrame} (hR : ax_R G h H) (a : cells + h0.1 = h.1) (b : slots + h0.2.1 = h.2.1)
    (k : W p l e (ax_rm d h0) s m args below meth c H locs cells slots (MQ below (fun _ _ o t => o = .returned (v.map (ax_v G)) ∧ t.heap = H) args s cells slots (fun q => G.2.2.1 ≤ q)) g) : W p l e (ax_rm d h0) s m args below meth c H locs cells slots (ax_Q G below s h0 (.inl v) h) g := by
  intro T hT X
  obtain ⟨t, st, o, h1, h2, ⟨rfl, h4⟩, L, ⟨-, hW, hsame⟩, hL⟩ := k T hT X
  exact ⟨t, st, _, h1, h2, rfl, by rw [h4]; exact hR, L, cells, slots, ⟨hW, hsame⟩, a, b, hL⟩
theorem ax_ireturn (B : ax_B G p s m meth c own cc nL (some .int)) {v : Int32} (hd : decode cc pc = .ok (.ireturn, 1)) : ax_W G p l e s m args below meth c nL d h0 pc tv [ax_I v] h (ax_ri v h) := by
  intro r h' e1 H locs cells slots ls hl hR a b cL
  cases e1
  exact ax_fin hR a b (W.iret B.1 B.2.1 B.2.2.2.1 (fun t ht _ => ⟨rfl, ht⟩) cL hd B.2.2.2.2.1)
theorem ax_zreturn (B : ax_B G p s m meth c own cc nL (some .boolean)) {v : Int32} (hd : decode cc pc = .ok (.ireturn, 1)) : ax_W G p l e s m args below meth c nL d h0 pc tv [ax_I v] h (ax_rz v h) := by
  intro r h' e1 H locs cells slots ls hl hR a b cL
  unfold ax_rz at e1
  by_cases hv : v = 0 ∨ v = 1
  · rw [if_pos hv] at e1
    cases e1
    exact ax_fin hR a b (W.zret B.1 B.2.1 B.2.2.2.1 (by rcases hv with rfl | rfl <;> rfl) (fun t ht _ => ⟨rfl, ht⟩) cL hd B.2.2.2.2.1)
  · rw [if_neg hv] at e1; cases e1
theorem ax_creturn (B : ax_B G p s m meth c own cc nL (some .char)) {v : Int32} (hd : decode cc pc = .ok (.ireturn, 1)) : ax_W G p l e s m args below meth c nL d h0 pc tv [ax_I v] h (ax_rc v h) := by
  intro r h' e1 H locs cells slots ls hl hR a b cL
  unfold ax_rc at e1
  by_cases hv : ax_nc v = v
  · rw [if_pos hv] at e1
    cases e1
    exact ax_fin hR a b (W.zret B.1 B.2.1 B.2.2.2.1 (congrArg Value.int hv) (fun t ht _ => ⟨rfl, ht⟩) cL hd B.2.2.2.2.1)
  · rw [if_neg hv] at e1; cases e1
theorem ax_lreturn (B : ax_B G p s m meth c own cc nL (some .long)) {v : Int64} (hd : decode cc pc = .ok (.lreturn, 1)) : ax_W G p l e s m args below meth c nL d h0 pc tv [ax_L v] h (ax_rl v h) := by
  intro r h' e1 H locs cells slots ls hl hR a b cL
  cases e1
  exact ax_fin hR a b (W.lret B.1 B.2.1 B.2.2.2.1 (fun t ht _ => ⟨rfl, ht⟩) cL hd B.2.2.2.2.1)
theorem ax_areturn (B : ax_B G p s m meth c own cc nL ret) {rt : FieldType} (hrt : ret = some rt) (hrf : (∃ n, rt = .object n) ∨ ∃ t, rt = .array t) {v : Option Nat} (hd : decode cc pc = .ok (.areturn, 1)) : ax_W G p l e s m args below meth c nL d h0 pc tv [ax_A v] h (ax_rr v h) := by
  intro r h' e1 H locs cells slots ls hl hR a b cL
  cases e1
  exact ax_fin hR a b (W.aret B.1 B.2.1 (B.2.2.2.1.trans hrt) hrf (by cases v with | none => exact Or.inl rfl | some a => exact Or.inr ⟨_, rfl⟩) (fun t ht _ => ⟨rfl, ht⟩) cL hd B.2.2.2.2.1)
theorem ax_vreturn (B : ax_B G p s m meth c own cc nL none) (hd : decode cc pc = .ok (.return_, 1)) : ax_W G p l e s m args below meth c nL d h0 pc tv [] h (ax_rv h) := by
  intro r h' e1 H locs cells slots ls hl hR a b cL
  cases e1
  exact ax_fin hR a b (W.vret B.1 B.2.1 B.2.2.2.1 (fun t ht _ => ⟨rfl, ht⟩) cL hd B.2.2.2.2.1)
theorem ax_ldc (B : ax_B G p s m meth c own cc nL ret) {idx : Nat} {v : Int32} (hw : Jvm.Cond.constant own idx v ∈ lw_tbl) (hd : decode cc pc = .ok (.ldc idx, 2)) (k : ax_W G p l e s m args below meth c nL d h0 (pc + 2) tv (ax_I v :: rest) h o) : ax_W G p l e s m args below meth c nL d h0 pc tv rest h o :=
  ax_lift (fun _ _ _ _ _ ls hl k => lv_ldc B.1 B.2.1 B.2.2.2.2.2.1 (ax_word B.2.2.2.2.2.2 hw rfl rfl) hd (k ls hl)) k
theorem ax_ldcw (B : ax_B G p s m meth c own cc nL ret) {idx : Nat} {v : Int32} (hw : Jvm.Cond.constant own idx v ∈ lw_tbl) (hd : decode cc pc = .ok (.ldc_w idx, 3)) (k : ax_W G p l e s m args below meth c nL d h0 (pc + 3) tv (ax_I v :: rest) h o) : ax_W G p l e s m args below meth c nL d h0 pc tv rest h o :=
  ax_lift (fun _ _ _ _ _ ls hl k => lv_ldcw B.1 B.2.1 B.2.2.2.2.2.1 (ax_word B.2.2.2.2.2.2 hw rfl rfl) hd (k ls hl)) k
theorem ax_ldc2 (B : ax_B G p s m meth c own cc nL ret) {idx : Nat} {v : Int64} (hw : Jvm.Cond.constantLong own idx v ∈ lw_tbl) (hd : decode cc pc = .ok (.ldc2_w idx, 3)) (k : ax_W G p l e s m args below meth c nL d h0 (pc + 3) tv (ax_L v :: rest) h o) : ax_W G p l e s m args below meth c nL d h0 pc tv rest h o :=
  ax_lift (fun _ _ _ _ _ ls hl k => lv_ldc2 B.1 B.2.1 B.2.2.2.2.2.1 (ax_word B.2.2.2.2.2.2 hw rfl rfl) hd (k ls hl)) k
/-- an object's own constructor of Object -/
theorem ax_objinit (B : ax_B G p s m meth c own cc nL ret) {idx : Nat} {x : Nat} (hw1 : Cond.methodLink own idx objectInit ∈ lw_tbl) (hw2 : Cond.instanceMethod objectInit ∈ lw_tbl) (hw3 : Cond.code objectInit ⟨#[0xb1]⟩ 1 none ∈ lw_tbl) (hst : ax_wt rest ≤ 8) (hd : decode cc pc = .ok (.invokespecial idx, 3))
    (k : ax_W G p l e s m args below meth c nL (d + 1) h0 (pc + 3) tv rest h o) : ax_W G p l e s m args below meth c nL (d + 1) h0 pc tv (ax_A (some x) :: rest) h o :=
  ax_lift (fun _ _ _ _ _ ls hl k => W.objInit B.1 B.2.1 B.2.2.2.2.2.1 (ax_word B.2.2.2.2.2.2 hw1 rfl rfl) (ax_word B.2.2.2.2.2.2 hw2 rfl rfl) (ax_word B.2.2.2.2.2.2 hw3 rfl rfl) rfl (by rw [B.2.2.1]; exact hl.1) rfl hd (by show 1 ≤ d + 1; omega) (by
    show 2 * (F0 m pc ls _).monitorRoom + ((rest.map (ax_v G)).map fun v => v.category).sum + 12 ≤ 60 * (d + 1)
    have := lv_room (m := m) (pc := pc) (ls := ls) (rest := (ax_A (some x) :: rest).map (ax_v G)) (st := rest.map (ax_v G)) (by rw [ax_wt_eq]; exact hst)
    omega) (k ls hl)) k
/-- the contract of a call: from the picture h, with these arguments, it ends so, with the picture h' -/
def ax_C (l : Launch) (G : ax_G) (d : Nat) (y : MethodName) (cd : Cond) (av : List ax_T) (h : ax_Hp) (r : ax_Rs) (h' : ax_Hp) : Prop :=
  MetFree l y (headSpec [cd] (ax_rm d h)) (fun a U => a = (av.map (ax_v G)).toArray ∧ ax_R G h U.heap ∧ ax_K G U) (fun _ _ _ _ _ => True)
    (fun _ st o t => ax_out G r o t ∧ ax_R G h' t.heap ∧ ∃ (L : List Loc) (k n : Nat), (st.WarmedH t.vm ∧ st.sameButNew ({ t with vm := st.vm } : State) L k n) ∧ k + h.1 = h'.1 ∧ n + h.2.1 = h'.2.1 ∧ ∀ q ∈ L, G.2.2.1 ≤ q.base)
def ax_args : Nat → List ax_T → List (Nat × ax_T)
  | _, [] => []
  | i, v :: vs => (i, v) :: ax_args (if ax_two v then i + 2 else i + 1) vs
theorem ax_args_m (G : ax_G) : ∀ (vs : List ax_T) (i : Nat), ax_m G (ax_args i vs) = lv_args i (vs.map (ax_v G))
  | [], _ => rfl
  | v :: vs, i => by
    have ih := ax_args_m G vs (if ax_two v then i + 2 else i + 1)
    show (i, ax_v G v) :: ax_m G (ax_args _ vs) = (i, ax_v G v) :: lv_args _ (vs.map (ax_v G))
    rw [ih]
    have hc := ax_catn G v
    cases ht : ax_two v <;> simp [hc, ht]
theorem ax_enter {y : MethodName} {bytes : ByteArray} {maxL : Nat} {av : List ax_T} {r : ax_Rs} {h' : ax_Hp} (hy : plainName y.cls = true) (hlen : ax_wt av ≤ maxL) (ho : o = some (r, h'))
    (body : ∀ (p : Program) (e : Env) (s : State) (m : MethodId) (args : Array Value) (below : List Frame) (meth : Method) (c : Code), ax_B G p s m meth c y.cls bytes maxL ret → c.exceptionTable.isEmpty = true → meth.name = y.name → ax_W G p l e s m args below meth c maxL d h 0 (ax_args 0 av) [] h o) :
    ax_C l G d y (.code y bytes maxL ret) av h r h' := by
  refine MetFree.of_bodyS (code := bytes) (maxLocals := maxL) (ret := ret) hy ?_ ?_
  · intro args s m hp hn
    obtain ⟨meth, c, h1, h2, h3, h4, h5, h6, -, -⟩ := Cond.code_spec hn (atoms_spec (ws := [.code y bytes maxL ret]) hp _ List.mem_cons_self)
    exact ⟨meth, c, h1, h2, h3, h4, h5, h6⟩
  · intro p e s m args below meth c s₁ B hml hP _
    obtain ⟨rfl, hR, hK⟩ := hP
    have hh0 : s₁.heap = s.heap := by rw [B.state]; rfl
    have hcw := atoms_spec (ws := [.code y bytes maxL ret]) B.pre _ List.mem_cons_self
    have hex := B.noHandlers hcw
    have hl := lv_entry (av.map (ax_v G)) (n := maxL) (by rw [ax_lgl]; exact hlen)
    rw [← ax_args_m G av 0] at hl
    have K := body p e s m (av.map (ax_v G)).toArray below meth c ⟨B.exec, B.bytes, hml, B.returns, B.notSynchronized, findClass_of_methodNamed B.named, hK⟩ hex (name_of_methodNamed B.named B.method).1 r h' ho s.heap [] 0 0 _ hl hR (by omega) (by omega) (fun q hq => by cases hq)
    obtain ⟨t, a1, o2, b1, b2, b3, b4, b5⟩ := K s₁ hh0 (Stand.of_body B)
    rw [lg_entry_eq]
    exact ⟨t, o2, a1, b1, b2, b3, b4, b5⟩
/-- an invocation has been linked: what is left is the callee's run -/
def ax_Inv (p : Program) (l : Launch) (e : Env) (R : Room) (s : State) (m : MethodId) (args : Array Value) (below : List Frame) (meth : Method) (c : Code) (T : State) (locs : List Loc) (cells slots : Nat) (g : JFrame) (rest : List Value) (y : MethodName) (av : List Value) : Prop :=
  ∃ (vm₁ : Vm) (mk : MethodId), Stand p l e R s m args below meth c (T.setVm vm₁) locs cells slots ∧ (T.setVm vm₁).methodNamed? y = some mk ∧ ∀ target, Steps p.tables e below (doInvoke e ((T.setVm vm₁).setTop { g with stack := rest }) [] mk av.toArray).1 target → Steps p.tables e below (T.setTop g) target
variable {R : Room} {T : State} {locs : List Loc} {cells slots : Nat}
/-- what a called method is, by the tables -/
def ax_M (y : MethodName) (bytes : ByteArray) (maxL n : Nat) (ret : Option FieldType) : Prop := Cond.code y bytes maxL ret ∈ lw_tbl ∧ Cond.initialized y.cls ∈ lw_tbl ∧ (y.cls ≠ "java/lang/invoke/MethodHandle" ∧ y.cls ≠ "java/lang/invoke/VarHandle") ∧ (parseMethodDescriptor y.desc).map (fun d => d.parameters.length) = some n ∧ maxL ≤ 40
def ax_Lk (own : String) (idx : Nat) (y : MethodName) : Prop := Cond.methodLink own idx y ∈ lw_tbl ∨ ∃ host : String, Cond.methodLinkNest own idx y host ∈ lw_tbl
variable {y : MethodName} {bytes : ByteArray} {maxL idx : Nat} {ry : Option FieldType} {As vrest : List Value}
theorem ax_invS (X : Stand p l e R s m args below meth c T locs cells slots) (B : ax_B G p s m meth c own cc nL ret) (hM : ax_M y bytes maxL As.length ry) (hst : Cond.static y ∈ lw_tbl) (hl : ax_Lk own idx y) {g : JFrame} (hg : g.method = m) (hstack : g.stack = As.reverse ++ vrest) (hd : decode cc g.pc = .ok (.invokestatic idx, 3)) :
    ax_Inv p l e R s m args below meth c T locs cells slots g vrest y As := by
  have hK := B.2.2.2.2.2.2
  have hcode : (Cond.code y bytes maxL ry).before args s = true := ax_word hK hM.1 rfl rfl
  obtain ⟨mk, hnamed⟩ := Cond.code_named hcode
  obtain ⟨methM, cM, hmethM, -, -, -, -, -, -, hsigM⟩ := Cond.code_spec hnamed hcode
  have hstatic : methM.isStatic = true := Cond.static_spec hnamed hmethM (ax_word (args := args) hK hst rfl rfl)
  obtain ⟨kP, hkP, -⟩ := className_of_methodNamed hnamed
  have hinitP : kP.init = .initialized := Cond.initialized_spec (findClass_of_methodNamed hnamed) hkP (ax_word (args := args) hK hM.2.1 rfl rfl)
  have hlen : As.length = methM.sig.parameters.length := by
    have h2 := hM.2.2.2.1
    rw [hsigM] at h2
    exact (Option.some.inj h2).symm
  rcases hl with hl | ⟨host, hl⟩
  · obtain ⟨vm₁, X₁, st⟩ := X.invokestatic B.1 B.2.2.2.2.2.1 (ax_word hK hl rfl rfl) hnamed hmethM hstatic hkP hinitP hM.2.2.1 (g := g) hg (argsL := As) (rest := vrest) hlen hstack (by rw [B.2.1]; exact hd)
    exact ⟨vm₁, mk, X₁, X₁.named hnamed, fun target h => st target (fun acts => by rw [doInvoke_state]; exact h)⟩
  · obtain ⟨vm₁, X₁, st⟩ := X.invokestaticNest B.1 B.2.2.2.2.2.1 (ax_word hK hl rfl rfl) hnamed hmethM hstatic hkP hinitP hM.2.2.1 (g := g) hg (argsL := As) (rest := vrest) hlen hstack (by rw [B.2.1]; exact hd)
    exact ⟨vm₁, mk, X₁, X₁.named hnamed, fun target h => st target (fun acts => by rw [doInvoke_state]; exact h)⟩
theorem ax_invV (X : Stand p l e R s m args below meth c T locs cells slots) (B : ax_B G p s m meth c own cc nL ret) (hM : ax_M y bytes maxL As.length ry) (hin : Cond.instanceMethod y ∈ lw_tbl) (hsel : Cond.selects y.cls y y ∈ lw_tbl) (hl : ax_Lk own idx y) {b : Nat} {cellB : Cell} (hcell : T.heap[b]? = some cellB) (hobj : cellB.vm = .none) (hcls : s.vm.findClass y.cls = some cellB.cls)
    {g : JFrame} (hg : g.method = m) (hstack : g.stack = As.reverse ++ .ref b :: vrest) (hd : decode cc g.pc = .ok (.invokevirtual idx, 3)) :
    ax_Inv p l e R s m args below meth c T locs cells slots g vrest y (.ref b :: As) := by
  have hK := B.2.2.2.2.2.2
  have hcode : (Cond.code y bytes maxL ry).before args s = true := ax_word hK hM.1 rfl rfl
  obtain ⟨mk, methM, hnamed, hmethM, hstM, habM⟩ := Cond.instanceMethod_spec (ax_word (args := args) hK hin rfl rfl)
  obtain ⟨methM', cM, hmethM', -, -, -, -, -, -, hsigM⟩ := Cond.code_spec hnamed hcode
  cases hmethM.symm.trans hmethM'
  obtain ⟨c2, r2, m2, q1, q2, q3, q4, kP, hkP, hkPi⟩ := Cond.selects_spec (ax_word (args := args) hK hsel rfl rfl)
  cases hcls.symm.trans q1
  cases (State.methodFound?_of_named hnamed hM.2.2.1).symm.trans q2
  cases hnamed.symm.trans q3
  have hselP : selectMethod e.platform s.vm cellB.cls mk = .method mk := by rw [Launch.admits_selectMethod X.admits]; exact q4
  have hlen : As.length = methM.sig.parameters.length := by
    have h2 := hM.2.2.2.1
    rw [hsigM] at h2
    exact (Option.some.inj h2).symm
  rcases hl with hl | ⟨host, hl⟩
  · obtain ⟨vm₁, X₁, st⟩ := X.invokevirtual B.1 B.2.2.2.2.2.1 (ax_word hK hl rfl rfl) hnamed hmethM hstM hkP hkPi hM.2.2.1 (a := b) (cell := cellB) hcell (fun z h => by rw [hobj] at h; cases h) hselP hmethM habM hkP hkPi (g := g) hg (argsL := As) (rest := vrest) hlen hstack (by rw [B.2.1]; exact hd)
    exact ⟨vm₁, mk, X₁, X₁.named hnamed, fun target h => st target (fun acts => by rw [doInvoke_state]; exact h)⟩
  · obtain ⟨vm₁, X₁, st⟩ := X.invokevirtualNest B.1 B.2.2.2.2.2.1 (ax_word hK hl rfl rfl) hnamed hmethM hstM hkP hkPi hM.2.2.1 (a := b) (cell := cellB) hcell (fun z h => by rw [hobj] at h; cases h) hselP hmethM habM hkP hkPi (g := g) hg (argsL := As) (rest := vrest) hlen hstack (by rw [B.2.1]; exact hd)
    exact ⟨vm₁, mk, X₁, X₁.named hnamed, fun target h => st target (fun acts => by rw [doInvoke_state]; exact h)⟩
theorem ax_invI (X : Stand p l e R s m args below meth c T locs cells slots) (B : ax_B G p s m meth c own cc nL ret) (hM : ax_M y bytes maxL As.length none) (hy : y.name = "<init>") (hin : Cond.instanceMethod y ∈ lw_tbl) (hl : ax_Lk own idx y) {b : Nat}
    {g : JFrame} (hg : g.method = m) (hstack : g.stack = As.reverse ++ .ref b :: vrest) (hd : decode cc g.pc = .ok (.invokespecial idx, 3)) :
    ax_Inv p l e R s m args below meth c T locs cells slots g vrest y (.ref b :: As) := by
  have hK := B.2.2.2.2.2.2
  have hcode : (Cond.code y bytes maxL none).before args s = true := ax_word hK hM.1 rfl rfl
  have hpl : e.platform.magicAccessors = ({} : Platform).magicAccessors := by rw [X.admits.platform]
  have hlen : ∀ sig, parseMethodDescriptor y.desc = some sig → As.length = sig.parameters.length := fun sig h1 => by
    have h2 := hM.2.2.2.1
    rw [h1] at h2
    exact (Option.some.inj h2).symm
  subst hg
  rcases hl with hl | ⟨host, hl⟩
  · obtain ⟨mk, methM, cM, kP, vm₁, hnamed, hmethM, hcodeM, -, hlocalsM, -, hkP, -, hW₁, st⟩ := Steps.initColdArgs (e := e) X.here B.1 X.warmed hpl B.2.2.2.2.2.1 hy hM.2.2.1 (ax_word (args := args) hK hl rfl rfl) (ax_word (args := args) hK hin rfl rfl) hcode (f := g) rfl hlen hstack (by rw [B.2.1]; exact hd)
    exact ⟨vm₁, mk, X.noted hW₁, (X.noted hW₁).named hnamed, fun target h => st target (fun acts => by rw [doInvoke_state]; exact h)⟩
  · obtain ⟨mk, methM, cM, kP, vm₁, hnamed, hmethM, hcodeM, -, hlocalsM, -, hkP, -, hW₁, st⟩ := Steps.initColdArgsNest (e := e) X.here B.1 X.warmed hpl B.2.2.2.2.2.1 hy hM.2.2.1 (ax_word (args := args) hK hl rfl rfl) (ax_word (args := args) hK hin rfl rfl) hcode (f := g) rfl hlen hstack (by rw [B.2.1]; exact hd)
    exact ⟨vm₁, mk, X.noted hW₁, (X.noted hW₁).named hnamed, fun target h => st target (fun acts => by rw [doInvoke_state]; exact h)⟩
/-- the callee's run, by its contract: both ends -/
theorem ax_run {cd : Cond} {av : List ax_T} {r : ax_Rs} {h1 : ax_Hp} {mk : MethodId} {g : JFrame} {ig : Instr} {len : Nat} (X : Stand p l e (ax_rm (d + 1) h0) s m args below meth c T locs cells slots) (hK : ax_K G s) {n0 : Nat} (hM : ax_M y bytes maxL n0 ry) (hC : ax_C l G d y (.code y bytes maxL ry) av h r h1) (hg : g.method = m) (hsize : g.locals.size = c.maxLocals)
    (hdg : decode c.code g.pc = .ok (ig, len)) (hW : 2 * g.monitorRoom + (g.stack.map fun v => v.category).sum ≤ 8) (hn : T.methodNamed? y = some mk) (hR : ax_R G h T.heap) (ha : cells + h0.1 = h.1) (hb : slots + h0.2.1 = h.2.1) :
    ∃ (oc : Outcome) (T' : State) (L : List Loc) (k n : Nat), Stand p l e (ax_rm (d + 1) h0) s m args below meth c T' (locs ++ L) (cells + k) (slots + n) ∧ ax_R G h1 T'.heap ∧ k + h.1 = h1.1 ∧ n + h.2.1 = h1.2.1 ∧ (∀ q ∈ L, G.2.2.1 ≤ q.base) ∧ ax_out G r oc T' ∧
      (∀ v, oc = .returned v → Steps p.tables e below (doInvoke e (T.setTop g) [] mk (av.map (ax_v G)).toArray).1 (T'.setTop { g with pc := g.pc + len, stack := v.toList ++ g.stack })) ∧
      (∀ x, oc = .threw x → Steps p.tables e below (doInvoke e (T.setTop g) [] mk (av.map (ax_v G)).toArray).1 ((T'.setTop g).pushFrame (.throwing x))) := by
  have hKT : ax_K G T := ax_K.warm X.warmed hK
  have hcw : (Cond.code y bytes maxL ry).before (av.map (ax_v G)).toArray T = true := ax_word hKT hM.1 rfl rfl
  obtain ⟨methY, cY, hmY, hcY, -, hlY, -, -, -, -⟩ := Cond.code_spec hn hcw
  obtain ⟨kY, hkY, -⟩ := className_of_methodNamed hn
  have hinitY : kY.init = .initialized := Cond.initialized_spec (findClass_of_methodNamed hn) hkY (ax_word (args := args) hKT hM.2.1 rfl rfl)
  have hAt : At T g.method c below := by rw [hg]; exact X.here
  have hRc := hR.2.1
  have hRs := hR.2.2.1
  have hmax := hM.2.2.2.2
  have happ : (headSpec [Cond.code y bytes maxL ry] (ax_rm d h)).appliesLoose y e.platform (T.calling g mk (av.map (ax_v G)).toArray) = true :=
    Spec.appliesLoose_calling (g := g) hAt hdg hn hkY hinitY
      (X.room_calling (g := g) (R' := ax_rm d h) hsize hmY hcY (by show d + 1 ≤ d + 1; omega) (by rw [hlY]; show _ + (maxL + 11) + 60 * d ≤ 60 * (d + 1); omega) (by show cells + (ax_CM - h.1) ≤ ax_CM - h0.1; omega) (by show slots + (ax_SM - h.2.1) ≤ ax_SM - h0.2.1; omega))
      (atoms_intro (fun w hw => by rw [List.mem_singleton.mp hw]; exact hcw))
  obtain ⟨mid, hmid⟩ := hAt.above
  have hfr : (T.setTop g).frames = (.java g :: mid) ++ below := by rw [State.frames_setTop' g hAt.top, hmid]; rfl
  have hKc : ax_K G (T.calling g mk (av.map (ax_v G)).toArray) := ax_K.warm (s := T) (U := T.calling g mk (av.map (ax_v G)).toArray) (State.WarmedH.refl T) hKT
  obtain ⟨o, s₂, hsteps, -, hend, hq⟩ := Steps.callFree hC p X.admits X.cas X.clock (acts := []) hfr happ ⟨rfl, hR, hKc⟩ trivial
  rw [State.frames_setTop' g hAt.top] at hend
  have hq2 : ax_out G r o s₂ ∧ ax_R G h1 s₂.heap ∧ ∃ (L : List Loc) (k n : Nat), ((T.calling g mk (av.map (ax_v G)).toArray).WarmedH s₂.vm ∧ (T.calling g mk (av.map (ax_v G)).toArray).sameButNew ({ s₂ with vm := (T.calling g mk (av.map (ax_v G)).toArray).vm } : State) L k n) ∧ k + h.1 = h1.1 ∧ n + h.2.1 = h1.2.1 ∧ ∀ q ∈ L, G.2.2.1 ≤ q.base := hq
  obtain ⟨hout, hR1, L, k, n, ⟨hW₂, e2, q2, q3, q4, q5, q6⟩, hk1, hn1, hL⟩ := hq2
  have e3 : s₂ = ({ (T.calling g mk (av.map (ax_v G)).toArray).setFrames s₂.frames with heap := s₂.heap, slotsUsed := s₂.slotsUsed } : State).setVm s₂.vm := by
    have : s₂ = ({ s₂ with vm := (T.calling g mk (av.map (ax_v G)).toArray).vm } : State).setVm s₂.vm := rfl
    rw [e2] at this
    exact this
  have hW' : T.WarmedH s₂.vm := hW₂
  obtain ⟨g₀, hg0⟩ := Option.isSome_iff_exists.mp hAt.top
  obtain ⟨r0, hr⟩ := State.topJava?_eq_some.mp hg0
  have hr' : (({ T with heap := s₂.heap, slotsUsed := s₂.slotsUsed } : State).setVm s₂.vm).frames = .java g₀ :: r0 := hr
  have hsame : T.sameButNew ({ T with heap := s₂.heap, slotsUsed := s₂.slotsUsed } : State) L k n := by
    refine ⟨?_, q2, q3, q4, q5, q6⟩
    obtain ⟨t, ht, -⟩ := State.frames_cons hr
    show ({ T with heap := s₂.heap, slotsUsed := s₂.slotsUsed } : State) = { T.setFrames T.frames with heap := s₂.heap, slotsUsed := s₂.slotsUsed }
    rw [State.setFrames_self ht]
  subst hg
  refine ⟨o, ({ T with heap := s₂.heap, slotsUsed := s₂.slotsUsed } : State).setVm s₂.vm, L, k, n,
    ⟨X.admits, X.cas, X.clock, X.frames, X.room, X.hears, X.method, X.code, (X.here.setHeapUsed s₂.heap s₂.slotsUsed).setVm hW'.alike, X.tail, State.WarmedH.trans X.warmed hW', X.limits, X.bytes, X.same.trans (hsame.setVm s.vm)⟩, hR1, hk1, hn1, hL, ax_out_of hout rfl rfl, ?_, ?_⟩
  · rintro v rfl
    obtain ⟨c₂, i₂, len₂, hc₂, hd₂, hf₂⟩ := hend
    have hcc : c₂ = c := by
      have h1 : s₂.code? g.method = T.code? g.method := by
        rw [State.code?_eq, State.code?_eq, hW'.alike.method?]
      exact Option.some.inj (hc₂.symm.trans (h1.trans hAt.code))
    subst hcc
    have hlen : len₂ = len := by rw [hdg] at hd₂; cases hd₂; rfl
    subst hlen
    have hs₂ : s₂ = (({ T with heap := s₂.heap, slotsUsed := s₂.slotsUsed } : State).setVm s₂.vm).setTop { g with pc := g.pc + len₂, stack := v.toList ++ g.stack } := by
      refine e3.trans ?_
      rw [hf₂, State.calling_eq hAt.top, State.setFrames_setFrames, State.setTop_of_frames _ hr', hr]
      rfl
    rw [← hs₂]
    exact hsteps
  · rintro v rfl
    have hf₂ : s₂.frames = .throwing v :: .java g :: T.frames.tail := hend
    have hs₂ : s₂ = ((({ T with heap := s₂.heap, slotsUsed := s₂.slotsUsed } : State).setVm s₂.vm).setTop g).pushFrame (.throwing v) := by
      refine e3.trans ?_
      rw [hf₂, State.calling_eq hAt.top, State.setFrames_setFrames, State.pushFrame, State.frames_setTop _ hr', State.setTop_of_frames _ hr', State.setFrames_setFrames, hr]
      rfl
    rw [← hs₂]
    exact hsteps
/-- behind a call: an answer goes on; an exception ends the method too -/
def ax_c (f : ax_O) (k : Option ax_T → ax_Hp → ax_O) : ax_O := match f with
  | some (.inl v, h) => k v h
  | some (.inr x, h) => some (.inr x, h)
  | none => none
theorem ax_ci_eq (f : ax_O) (k : Int32 → ax_Hp → ax_O) : ax_ci f k = ax_c f (fun v h => match v with | some (.inl n) => k n h | _ => none) := by
  rcases f with _ | ⟨(_ | (_ | _ | _)) | _, _⟩ <;> rfl
theorem ax_cl_eq (f : ax_O) (k : Int64 → ax_Hp → ax_O) : ax_cl f k = ax_c f (fun v h => match v with | some (.inr (.inl n)) => k n h | _ => none) := by
  rcases f with _ | ⟨(_ | (_ | _ | _)) | _, _⟩ <;> rfl
theorem ax_cr_eq (f : ax_O) (k : Option Nat → ax_Hp → ax_O) : ax_cr f k = ax_c f (fun v h => match v with | some (.inr (.inr n)) => k n h | _ => none) := by
  rcases f with _ | ⟨(_ | (_ | _ | _)) | _, _⟩ <;> rfl
theorem ax_cv_eq (f : ax_O) (k : ax_Hp → ax_O) : ax_cv f k = ax_c f (fun v h => match v with | none => k h | _ => none) := by
  rcases f with _ | ⟨(_ | (_ | _ | _)) | _, _⟩ <;> rfl
theorem ax_thr {h1 : ax_Hp} {x : Nat × Nat} {locs : List Loc} {cells slots : Nat} {T' : State} {g : JFrame} (X' : Stand p l e (ax_rm d h0) s m args below meth c T' locs cells slots) (E : c.exceptionTable.isEmpty = true) (hlocks : meth.locks = false) (hg : g.method = m) (hlk : g.locked = none) (hen : g.entered = []) (hR : ax_R G h1 T'.heap) (hx : ax_exc x.1 (ax_ad G x.2) T')
    (a : cells + h0.1 = h1.1) (b : slots + h0.2.1 = h1.2.1) (cL : ∀ q ∈ locs, G.2.2.1 ≤ q.base) : ∃ t, Steps p.tables e below ((T'.setTop g).pushFrame (.throwing (ax_ad G x.2))) t ∧ ax_Q G below s h0 (.inr x) h1 t := by
  have hout : ∀ z ∈ c.exceptionTable.toList, covers z g.pc = false := fun z hz => by
    have h1 : c.exceptionTable.toList = [] := by simpa using E
    rw [h1] at hz; cases hz
  obtain ⟨st, h1, h2, h3, h4⟩ := X'.leaveThrown (ax_ad G x.2) hg hlk hen hout hlocks
  exact ⟨_, st, .threw (ax_ad G x.2), h1, h2, ⟨rfl, ax_exc_of hx rfl rfl⟩, hR, locs, cells, slots, ⟨h3, h4⟩, a, b, cL⟩
/-- a call, by its invocation and its contract -/
theorem ax_callG {av : List ax_T} {st : List ax_T} {q : Option ax_T → ax_Hp → ax_O} {f : ax_O} {ig : Instr} {n : Nat} (B : ax_B G p s m meth c own cc nL ret) (E : c.exceptionTable.isEmpty = true) (hM : ax_M y bytes maxL n ry) (hd : decode cc pc = .ok (ig, 3)) (hcat : ax_wt rest ≤ 8)
    (hinv : ∀ (T : State) (H : Heap) (locs : List Loc) (cells slots : Nat) (ls : Array Slot), T.heap = H → ax_R G h H → Stand p l e (ax_rm (d + 1) h0) s m args below meth c T locs cells slots → ax_Inv p l e (ax_rm (d + 1) h0) s m args below meth c T locs cells slots (F0 m pc ls (st.map (ax_v G))) (rest.map (ax_v G)) y (av.map (ax_v G)))
    (hf : ∀ r h1, f = some (r, h1) → ax_C l G d y (.code y bytes maxL ry) av h r h1) (kk : ∀ v h1, ax_W G p l e s m args below meth c nL (d + 1) h0 (pc + 3) tv (v.toList ++ rest) h1 (q v h1)) : ax_W G p l e s m args below meth c nL (d + 1) h0 pc tv st h (ax_c f q) := by
  intro r h' e1 H locs cells slots ls hl hR a b cL T hT X
  rcases hfe : f with _ | ⟨r1, h1⟩
  · rw [hfe] at e1; cases e1
  · have hC := hf r1 h1 hfe
    obtain ⟨vm₁, mk, X₁, hn, st1⟩ := hinv T H locs cells slots ls hT hR X
    obtain ⟨oc, T', L, k, n2, X', hR1, hk1, hn1, hL, hout, go1, go2⟩ := ax_run (cd := .code y bytes maxL ry) X₁ B.2.2.2.2.2.2 hM hC (g := { F0 m pc ls (st.map (ax_v G)) with stack := rest.map (ax_v G) }) rfl (hl.1.trans B.2.2.1.symm) (by rw [B.2.1]; exact hd) (lv_room (m := m) (pc := pc) (ls := ls) (rest := rest.map (ax_v G)) (st := rest.map (ax_v G)) (by rw [ax_wt_eq]; exact hcat)) hn (by show ax_R G h T.heap; rw [hT]; exact hR) a b
    have cL1 : ∀ q ∈ locs ++ L, G.2.2.1 ≤ q.base := fun q hq => by
      rcases List.mem_append.mp hq with hq | hq
      · exact cL q hq
      · exact hL q hq
    rw [hfe] at e1
    cases r1 with
    | inl v =>
      have ho : oc = .returned (v.map (ax_v G)) := hout
      obtain ⟨t, s1, s2⟩ := kk v h1 r h' e1 T'.heap (locs ++ L) (cells + k) (slots + n2) ls hl hR1 (by omega) (by omega) cL1 T' rfl X'
      refine ⟨t, st1 t ((go1 _ ho).trans ?_), s2⟩
      have hst : (v.map (ax_v G)).toList ++ rest.map (ax_v G) = (v.toList ++ rest).map (ax_v G) := by cases v <;> rfl
      rw [hst]
      exact s1
    | inr x =>
      cases e1
      obtain ⟨ho, hx⟩ : oc = .threw (ax_ad G x.2) ∧ ax_exc x.1 (ax_ad G x.2) T' := hout
      obtain ⟨t, s1, s2⟩ := ax_thr X' E B.2.2.2.2.1 (g := { F0 m pc ls (st.map (ax_v G)) with stack := rest.map (ax_v G) }) rfl rfl rfl hR1 hx (by omega) (by omega) cL1
      exact ⟨t, st1 t ((go2 _ ho).trans s1), s2⟩
theorem ax_callS {av : List ax_T} {st : List ax_T} {q : Option ax_T → ax_Hp → ax_O} {f : ax_O} (B : ax_B G p s m meth c own cc nL ret) (E : c.exceptionTable.isEmpty = true) (hM : ax_M y bytes maxL av.length ry) (hs : Cond.static y ∈ lw_tbl) (hl : ax_Lk own idx y) (hd : decode cc pc = .ok (.invokestatic idx, 3)) (hst : st = av.reverse ++ rest) (hcat : ax_wt rest ≤ 8)
    (hf : ∀ r h1, f = some (r, h1) → ax_C l G d y (.code y bytes maxL ry) av h r h1) (kk : ∀ v h1, ax_W G p l e s m args below meth c nL (d + 1) h0 (pc + 3) tv (v.toList ++ rest) h1 (q v h1)) : ax_W G p l e s m args below meth c nL (d + 1) h0 pc tv st h (ax_c f q) := by
  subst hst
  refine ax_callG B E hM hd hcat (fun T H locs cells slots ls hT hR X => ?_) hf kk
  refine ax_invS (maxL := maxL) (bytes := bytes) (ry := ry) X B (by rw [List.length_map]; exact hM) hs hl rfl ?_ hd
  rw [List.map_append, List.map_reverse]
theorem ax_callV {av : List ax_T} {st : List ax_T} {q : Option ax_T → ax_Hp → ax_O} {f : ax_O} {ci : Nat} {C : String} {T : u_T} {N : Nat} {ty0 : Nat → FieldType} {x : Option Nat} (B : ax_B G p s m meth c own cc nL ret) (E : c.exceptionTable.isEmpty = true) (hM : ax_M y bytes maxL av.length ry) (hC : ax_Cl ci C T N ty0) (hyC : y.cls = C) (hin : Cond.instanceMethod y ∈ lw_tbl) (hsel : Cond.selects y.cls y y ∈ lw_tbl) (hl : ax_Lk own idx y) (hd : decode cc pc = .ok (.invokevirtual idx, 3)) (hst : st = av.reverse ++ ax_A x :: rest) (hcat : ax_wt rest ≤ 8)
    (hf : ∀ r h1, f = some (r, h1) → ax_C l G d y (.code y bytes maxL ry) (ax_A x :: av) h r h1) (kk : ∀ v h1, ax_W G p l e s m args below meth c nL (d + 1) h0 (pc + 3) tv (v.toList ++ rest) h1 (q v h1)) : ax_W G p l e s m args below meth c nL (d + 1) h0 pc tv st h (ax_on h x ci (ax_c f q)) := by
  intro r h' e1
  obtain ⟨fs, hfs, e2⟩ := Option.bind_eq_some_iff.mp e1
  obtain ⟨b, rfl, hm⟩ := ax_obj_spec hfs
  suffices main : ax_W G p l e s m args below meth c nL (d + 1) h0 pc tv st h (ax_c f q) from main r h' e2
  subst hst
  refine ax_callG B E hM hd hcat (fun T H locs cells slots ls hT hR X => ?_) hf kk
  obtain ⟨hge, r1, hr1, hlen, cell, q1, q2, q3, q4⟩ := hR.2.2.2.2.2 b _ hm
  have hcl : s.vm.findClass y.cls = some cell.cls := by
    rw [hyC, q2]
    exact (B.2.2.2.2.2.2.1.1 ci _ hC.1).2.1
  refine ax_invV (maxL := maxL) (bytes := bytes) (ry := ry) (As := av.map (ax_v G)) (b := ax_ad G b) (cellB := cell) X B (by rw [List.length_map]; exact hM) hin hsel hl (by rw [hT]; exact q1) q3 hcl rfl ?_ hd
  simp only [List.map_append, List.map_reverse, List.map_cons]
  rfl
theorem ax_callI {av : List ax_T} {st : List ax_T} {q : Option ax_T → ax_Hp → ax_O} {f : ax_O} {x : Nat} (B : ax_B G p s m meth c own cc nL ret) (E : c.exceptionTable.isEmpty = true) (hM : ax_M y bytes maxL av.length none) (hy : y.name = "<init>") (hin : Cond.instanceMethod y ∈ lw_tbl) (hl : ax_Lk own idx y) (hd : decode cc pc = .ok (.invokespecial idx, 3)) (hst : st = av.reverse ++ ax_A (some x) :: rest) (hcat : ax_wt rest ≤ 8)
    (hf : ∀ r h1, f = some (r, h1) → ax_C l G d y (.code y bytes maxL none) (ax_A (some x) :: av) h r h1) (kk : ∀ v h1, ax_W G p l e s m args below meth c nL (d + 1) h0 (pc + 3) tv (v.toList ++ rest) h1 (q v h1)) : ax_W G p l e s m args below meth c nL (d + 1) h0 pc tv st h (ax_c f q) := by
  subst hst
  refine ax_callG B E hM hd hcat (fun T H locs cells slots ls hT hR X => ?_) hf kk
  refine ax_invI (maxL := maxL) (bytes := bytes) (As := av.map (ax_v G)) (b := ax_ad G x) X B (by rw [List.length_map]; exact hM) hy hin hl rfl ?_ hd
  simp only [List.map_append, List.map_reverse, List.map_cons]
  rfl
theorem ax_callSi {av st : List ax_T} {q : Int32 → ax_Hp → ax_O} {f : ax_O} (B : ax_B G p s m meth c own cc nL ret) (E : c.exceptionTable.isEmpty = true) (hM : ax_M y bytes maxL av.length ry) (hs : Cond.static y ∈ lw_tbl) (hl : ax_Lk own idx y) (hd : decode cc pc = .ok (.invokestatic idx, 3)) (hst : st = av.reverse ++ rest) (hcat : ax_wt rest ≤ 8)
    (hf : ∀ r h1, f = some (r, h1) → ax_C l G d y (.code y bytes maxL ry) av h r h1) (kk : ∀ v h1, ax_W G p l e s m args below meth c nL (d + 1) h0 (pc + 3) tv (ax_I v :: rest) h1 (q v h1)) : ax_W G p l e s m args below meth c nL (d + 1) h0 pc tv st h (ax_ci f q) :=
  ax_eq (ax_ci_eq f q) (ax_callS B E hM hs hl hd hst hcat hf (fun v h1 => by rcases v with _ | (v | v | v); exact ax_none; exact kk v h1; exact ax_none; exact ax_none))
theorem ax_callVi {av st : List ax_T} {q : Int32 → ax_Hp → ax_O} {f : ax_O} {ci : Nat} {C : String} {T : u_T} {N : Nat} {ty0 : Nat → FieldType} {x : Option Nat} (B : ax_B G p s m meth c own cc nL ret) (E : c.exceptionTable.isEmpty = true) (hM : ax_M y bytes maxL av.length ry) (hC : ax_Cl ci C T N ty0) (hyC : y.cls = C) (hin : Cond.instanceMethod y ∈ lw_tbl) (hsel : Cond.selects y.cls y y ∈ lw_tbl) (hl : ax_Lk own idx y) (hd : decode cc pc = .ok (.invokevirtual idx, 3)) (hst : st = av.reverse ++ ax_A x :: rest) (hcat : ax_wt rest ≤ 8)
    (hf : ∀ r h1, f = some (r, h1) → ax_C l G d y (.code y bytes maxL ry) (ax_A x :: av) h r h1) (kk : ∀ v h1, ax_W G p l e s m args below meth c nL (d + 1) h0 (pc + 3) tv (ax_I v :: rest) h1 (q v h1)) : ax_W G p l e s m args below meth c nL (d + 1) h0 pc tv st h (ax_on h x ci (ax_ci f q)) :=
  ax_eq (congrArg (ax_on h x ci) (ax_ci_eq f q)) (ax_callV B E hM hC hyC hin hsel hl hd hst hcat hf (fun v h1 => by rcases v with _ | (v | v | v); exact ax_none; exact kk v h1; exact ax_none; exact ax_none))
theorem ax_callSl {av st : List ax_T} {q : Int64 → ax_Hp → ax_O} {f : ax_O} (B : ax_B G p s m meth c own cc nL ret) (E : c.exceptionTable.isEmpty = true) (hM : ax_M y bytes maxL av.length ry) (hs : Cond.static y ∈ lw_tbl) (hl : ax_Lk own idx y) (hd : decode cc pc = .ok (.invokestatic idx, 3)) (hst : st = av.reverse ++ rest) (hcat : ax_wt rest ≤ 8)
    (hf : ∀ r h1, f = some (r, h1) → ax_C l G d y (.code y bytes maxL ry) av h r h1) (kk : ∀ v h1, ax_W G p l e s m args below meth c nL (d + 1) h0 (pc + 3) tv (ax_L v :: rest) h1 (q v h1)) : ax_W G p l e s m args below meth c nL (d + 1) h0 pc tv st h (ax_cl f q) :=
  ax_eq (ax_cl_eq f q) (ax_callS B E hM hs hl hd hst hcat hf (fun v h1 => by rcases v with _ | (v | v | v); exact ax_none; exact ax_none; exact kk v h1; exact ax_none))
theorem ax_callVl {av st : List ax_T} {q : Int64 → ax_Hp → ax_O} {f : ax_O} {ci : Nat} {C : String} {T : u_T} {N : Nat} {ty0 : Nat → FieldType} {x : Option Nat} (B : ax_B G p s m meth c own cc nL ret) (E : c.exceptionTable.isEmpty = true) (hM : ax_M y bytes maxL av.length ry) (hC : ax_Cl ci C T N ty0) (hyC : y.cls = C) (hin : Cond.instanceMethod y ∈ lw_tbl) (hsel : Cond.selects y.cls y y ∈ lw_tbl) (hl : ax_Lk own idx y) (hd : decode cc pc = .ok (.invokevirtual idx, 3)) (hst : st = av.reverse ++ ax_A x :: rest) (hcat : ax_wt rest ≤ 8)
    (hf : ∀ r h1, f = some (r, h1) → ax_C l G d y (.code y bytes maxL ry) (ax_A x :: av) h r h1) (kk : ∀ v h1, ax_W G p l e s m args below meth c nL (d + 1) h0 (pc + 3) tv (ax_L v :: rest) h1 (q v h1)) : ax_W G p l e s m args below meth c nL (d + 1) h0 pc tv st h (ax_on h x ci (ax_cl f q)) :=
  ax_eq (congrArg (ax_on h x ci) (ax_cl_eq f q)) (ax_callV B E hM hC hyC hin hsel hl hd hst hcat hf (fun v h1 => by rcases v with _ | (v | v | v); exact ax_none; exact ax_none; exact kk v h1; exact ax_none))
theorem ax_callSr {av st : List ax_T} {q : Option Nat → ax_Hp → ax_O} {f : ax_O} (B : ax_B G p s m meth c own cc nL ret) (E : c.exceptionTable.isEmpty = true) (hM : ax_M y bytes maxL av.length ry) (hs : Cond.static y ∈ lw_tbl) (hl : ax_Lk own idx y) (hd : decode cc pc = .ok (.invokestatic idx, 3)) (hst : st = av.reverse ++ rest) (hcat : ax_wt rest ≤ 8)
    (hf : ∀ r h1, f = some (r, h1) → ax_C l G d y (.code y bytes maxL ry) av h r h1) (kk : ∀ v h1, ax_W G p l e s m args below meth c nL (d + 1) h0 (pc + 3) tv (ax_A v :: rest) h1 (q v h1)) : ax_W G p l e s m args below meth c nL (d + 1) h0 pc tv st h (ax_cr f q) :=
  ax_eq (ax_cr_eq f q) (ax_callS B E hM hs hl hd hst hcat hf (fun v h1 => by rcases v with _ | (v | v | v); exact ax_none; exact ax_none; exact ax_none; exact kk v h1))
theorem ax_callVr {av st : List ax_T} {q : Option Nat → ax_Hp → ax_O} {f : ax_O} {ci : Nat} {C : String} {T : u_T} {N : Nat} {ty0 : Nat → FieldType} {x : Option Nat} (B : ax_B G p s m meth c own cc nL ret) (E : c.exceptionTable.isEmpty = true) (hM : ax_M y bytes maxL av.length ry) (hC : ax_Cl ci C T N ty0) (hyC : y.cls = C) (hin : Cond.instanceMethod y ∈ lw_tbl) (hsel : Cond.selects y.cls y y ∈ lw_tbl) (hl : ax_Lk own idx y) (hd : decode cc pc = .ok (.invokevirtual idx, 3)) (hst : st = av.reverse ++ ax_A x :: rest) (hcat : ax_wt rest ≤ 8)
    (hf : ∀ r h1, f = some (r, h1) → ax_C l G d y (.code y bytes maxL ry) (ax_A x :: av) h r h1) (kk : ∀ v h1, ax_W G p l e s m args below meth c nL (d + 1) h0 (pc + 3) tv (ax_A v :: rest) h1 (q v h1)) : ax_W G p l e s m args below meth c nL (d + 1) h0 pc tv st h (ax_on h x ci (ax_cr f q)) :=
  ax_eq (congrArg (ax_on h x ci) (ax_cr_eq f q)) (ax_callV B E hM hC hyC hin hsel hl hd hst hcat hf (fun v h1 => by rcases v with _ | (v | v | v); exact ax_none; exact ax_none; exact ax_none; exact kk v h1))
theorem ax_callSv {av st : List ax_T} {q : ax_Hp → ax_O} {f : ax_O} (B : ax_B G p s m meth c own cc nL ret) (E : c.exceptionTable.isEmpty = true) (hM : ax_M y bytes maxL av.length ry) (hs : Cond.static y ∈ lw_tbl) (hl : ax_Lk own idx y) (hd : decode cc pc = .ok (.invokestatic idx, 3)) (hst : st = av.reverse ++ rest) (hcat : ax_wt rest ≤ 8)
    (hf : ∀ r h1, f = some (r, h1) → ax_C l G d y (.code y bytes maxL ry) av h r h1) (kk : ∀ h1, ax_W G p l e s m args below meth c nL (d + 1) h0 (pc + 3) tv rest h1 (q h1)) : ax_W G p l e s m args below meth c nL (d + 1) h0 pc tv st h (ax_cv f q) :=
  ax_eq (ax_cv_eq f q) (ax_callS B E hM hs hl hd hst hcat hf (fun v h1 => by rcases v with _ | v; exact kk h1; exact ax_none))
theorem ax_callVv {av st : List ax_T} {q : ax_Hp → ax_O} {f : ax_O} {ci : Nat} {C : String} {T : u_T} {N : Nat} {ty0 : Nat → FieldType} {x : Option Nat} (B : ax_B G p s m meth c own cc nL ret) (E : c.exceptionTable.isEmpty = true) (hM : ax_M y bytes maxL av.length ry) (hC : ax_Cl ci C T N ty0) (hyC : y.cls = C) (hin : Cond.instanceMethod y ∈ lw_tbl) (hsel : Cond.selects y.cls y y ∈ lw_tbl) (hl : ax_Lk own idx y) (hd : decode cc pc = .ok (.invokevirtual idx, 3)) (hst : st = av.reverse ++ ax_A x :: rest) (hcat : ax_wt rest ≤ 8)
    (hf : ∀ r h1, f = some (r, h1) → ax_C l G d y (.code y bytes maxL ry) (ax_A x :: av) h r h1) (kk : ∀ h1, ax_W G p l e s m args below meth c nL (d + 1) h0 (pc + 3) tv rest h1 (q h1)) : ax_W G p l e s m args below meth c nL (d + 1) h0 pc tv st h (ax_on h x ci (ax_cv f q)) :=
  ax_eq (congrArg (ax_on h x ci) (ax_cv_eq f q)) (ax_callV B E hM hC hyC hin hsel hl hd hst hcat hf (fun v h1 => by rcases v with _ | v; exact kk h1; exact ax_none))
theorem ax_callIv {av st : List ax_T} {q : ax_Hp → ax_O} {f : ax_O} {x : Nat} (B : ax_B G p s m meth c own cc nL ret) (E : c.exceptionTable.isEmpty = true) (hM : ax_M y bytes maxL av.length none) (hy : y.name = "<init>") (hin : Cond.instanceMethod y ∈ lw_tbl) (hl : ax_Lk own idx y) (hd : decode cc pc = .ok (.invokespecial idx, 3)) (hst : st = av.reverse ++ ax_A (some x) :: rest) (hcat : ax_wt rest ≤ 8)
    (hf : ∀ r h1, f = some (r, h1) → ax_C l G d y (.code y bytes maxL none) (ax_A (some x) :: av) h r h1) (kk : ∀ h1, ax_W G p l e s m args below meth c nL (d + 1) h0 (pc + 3) tv rest h1 (q h1)) : ax_W G p l e s m args below meth c nL (d + 1) h0 pc tv st h (ax_cv f q) :=
  ax_eq (ax_cv_eq f q) (ax_callI B E hM hy hin hl hd hst hcat hf (fun v h1 => by rcases v with _ | v; exact kk h1; exact ax_none))
end AX3
