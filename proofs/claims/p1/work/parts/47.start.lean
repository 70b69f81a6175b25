def R_law : String := "SchemaDeskLaw"
def lw_P (b : Addr) (xs : List Int32) (args : Array Value) (s : State) : Prop := args = #[.ref b] ∧ s.IntsAt b xs ∧ xs.length ≤ 4 ∧ (Jvm.Cond.and given_1 narrow_1).before args s = true
def lw_Q (_ : Array Value) (s : State) (o : Outcome) (t : State) : Prop := o = .returned (some (.int 1)) ∧ Framed s o t [] 600002 7302232
def ax_h0 (xs : List Int32) : ax_Hp := (0, 0, fun q => if q = 0 then some (.inr (0, xs.map ax_I)) else none)
theorem ax_cls : ∀ q ∈ vwCl, (∀ w ∈ u_ws q.1 q.2.1 q.2.2, w ∈ lw_tbl) ∧ Cond.instantiable q.1 q.2.2 ∈ lw_tbl := by
  refine List.forall_mem_cons.mpr ⟨⟨cl_Cursor.2.1, List.mem_append_right _ (by decide +kernel)⟩, List.forall_mem_cons.mpr ⟨⟨cl_Resolver.2.1, List.mem_append_right _ (by decide +kernel)⟩, List.forall_mem_cons.mpr ⟨⟨cl_Row.2.1, List.mem_append_right _ (by decide +kernel)⟩, List.forall_mem_cons.mpr ⟨⟨cl_Schema.2.1, List.mem_append_right _ (by decide +kernel)⟩, List.forall_mem_cons.mpr ⟨⟨cl_SchemaReader.2.1, List.mem_append_right _ (by decide +kernel)⟩, List.forall_mem_cons.mpr ⟨⟨cl_StreamReader.2.1, List.mem_append_right _ (by decide +kernel)⟩, List.forall_mem_cons.mpr ⟨⟨cl_Subject.2.1, List.mem_append_right _ (by decide +kernel)⟩, List.forall_mem_cons.mpr ⟨⟨cl_ValueReader.2.1, List.mem_append_right _ (by decide +kernel)⟩, List.forall_mem_cons.mpr ⟨⟨cl_Desk.2.1, List.mem_append_right _ (by decide +kernel)⟩, List.forall_mem_cons.mpr ⟨⟨cl_Model.2.1, List.mem_append_right _ (by decide +kernel)⟩, fun _ h => absurd h List.not_mem_nil⟩⟩⟩⟩⟩⟩⟩⟩⟩⟩
theorem ax_start {s : State} {b : Nat} {xs : List Int32} {scr : Cell} (hts : ∀ w ∈ lw_tbl, w.before #[Value.ref b] s = true) (hcb : s.heap[b]? = some scr) (hkn : scr.vm ≠ .unknown) (hof : s.isArrayOf scr .int) (hlist : scr.slots.toList = xs.map Value.int) (hgv : (Jvm.Cond.and given_1 narrow_1).before #[Value.ref b] s = true) :
    ∃ G : ax_G, ax_K G s ∧ ax_R G (ax_h0 xs) s.heap ∧ G.2.2.1 = s.heap.size ∧ G.2.2.2.1 = b := by
  have hbl : b < s.heap.size := (Array.getElem?_eq_some_iff.mp hcb).1
  have hcl : ∀ c : Nat, ∃ r : ClassId × (Nat → Nat), ∀ q : vw_C, vwCl[c]? = some q → u_Kn s q.1 q.2.1 q.2.2 r.1 r.2 := by
    intro c
    cases hq : vwCl[c]? with
    | none => exact ⟨(scr.cls, fun _ => 0), fun q h => by cases h⟩
    | some q =>
      obtain ⟨h1, h2⟩ := ax_cls q (List.mem_of_getElem? hq)
      obtain ⟨cC, iS, h⟩ := u_known (ws := lw_tbl) (N := q.2.2) hts h1 (hts _ h2)
      exact ⟨(cC, iS), fun q' h' => by cases h'; exact h⟩
  obtain ⟨f, hf⟩ : ∃ f : Nat → ClassId × (Nat → Nat), ∀ (c : Nat) (q : vw_C), vwCl[c]? = some q → u_Kn s q.1 q.2.1 q.2.2 (f c).1 (f c).2 := ⟨fun c => Classical.choose (hcl c), fun c => Classical.choose_spec (hcl c)⟩
  have hpr : ∀ ty : FieldType, Cond.arrayClass ty ∈ lw_tbl → (∀ C, ty ≠ .object C) → ∃ cA, ArrOfT s cA ty ∧ va_RA s cA ty := by
    intro ty hw hno
    obtain ⟨cA, k, comp, h1, h2, h3⟩ := Cond.arrayClass_spec (hts _ hw)
    refine ⟨cA, fun n z => ⟨fun k h => (by cases h), k, h2, comp, h3⟩, ?_⟩
    cases ty <;> first | exact h1 | exact absurd rfl (hno _)
  have hob : ∀ C : String, Cond.arrayOver (.object C) ∈ lw_tbl → ∃ cA, ArrOfT s cA (.object C) ∧ va_RA s cA (.object C) := by
    intro C hw
    obtain ⟨comp, cA, k, h1, h2, h3, h4, h5⟩ := Cond.arrayOver_spec (hts _ hw)
    exact ⟨cA, fun n z => ⟨fun k h => (by cases h), k, h3, comp, h4⟩, k, comp, h3, h4, h1, h5⟩
  obtain ⟨a1, i1⟩ := hpr .int (List.mem_append_right _ (by decide +kernel)) (by intro C h; cases h)
  obtain ⟨a2, i2⟩ := hpr .long (List.mem_append_right _ (by decide +kernel)) (by intro C h; cases h)
  obtain ⟨a3, i3⟩ := hpr .char (List.mem_append_right _ (by decide +kernel)) (by intro C h; cases h)
  obtain ⟨a4, i4⟩ := hpr .boolean (List.mem_append_right _ (by decide +kernel)) (by intro C h; cases h)
  obtain ⟨a5, i5⟩ := hob "SchemaDesk$Subject" (List.mem_append_right _ (by decide +kernel))
  obtain ⟨a6, i6⟩ := hob "SchemaDesk$Schema" (List.mem_append_right _ (by decide +kernel))
  refine ⟨((fun c => (f c).1, fun c => (f c).2), (fun k => match k with | 0 => scr.cls | 1 => a1 | 2 => a2 | 3 => a3 | 4 => a4 | 5 => a5 | _ => a6), s.heap.size, b, fun q => s.heap[q]?), ⟨⟨hf, fun k q h => by cases h⟩, ?_, ?_, ?_, ?_⟩, ?_, rfl, rfl⟩
  · intro w hw ho
    have h := hts w hw
    unfold ax_ok at ho
    rw [Bool.or_eq_true] at ho
    rcases ho with ho | ho
    · rw [Bool.and_eq_true] at ho
      exact va_Nw.of ho.1 h
    · split at ho
      all_goals first | exact h | cases ho
  · intro k hk
    match k, hk with
    | 0, _ => exact ⟨fun n z => ⟨fun k h => (by cases h), hof.2⟩, fun h => absurd rfl h⟩
    | 1, _ => exact ⟨i1.1, fun _ => i1.2⟩
    | 2, _ => exact ⟨i2.1, fun _ => i2.2⟩
    | 3, _ => exact ⟨i3.1, fun _ => i3.2⟩
    | 4, _ => exact ⟨i4.1, fun _ => i4.2⟩
    | 5, _ => exact ⟨i5.1, fun _ => i5.2⟩
    | 6, _ => exact ⟨i6.1, fun _ => i6.2⟩
    | n + 7, h => exact absurd h (by unfold ax_nk; omega)
  · intro U hU hl
    have z1 := vx_Zqof (C := Bundle.tN) (n := "UNASSIGNED_STACK") (d := Bundle.steD) (A := fun q => s.heap.size ≤ q) (hts _ (List.mem_append_right _ (by decide +kernel))) (hts _ (List.mem_append_right _ (by decide +kernel))) (flat_of_before _ hgv _ (by decide +kernel)) (fun a h1 h2 => absurd h1 (Nat.not_lt.mpr h2))
    have z2 := vx_Zqof (C := Bundle.tN) (n := "SUPPRESSED_SENTINEL") (d := Bundle.listD) (A := fun q => s.heap.size ≤ q) (hts _ (List.mem_append_right _ (by decide +kernel))) (hts _ (List.mem_append_right _ (by decide +kernel))) (flat_of_before _ hgv _ (by decide +kernel)) (fun a h1 h2 => absurd h1 (Nat.not_lt.mpr h2))
    exact ⟨vx_Zq.moved hU (z1.kept fun a h1 _ => hl a h1), vx_Zq.moved hU (z2.kept fun a h1 _ => hl a h1)⟩
  · exact va_Nc.of (flat_of_before _ hgv (.not (.castable (ax_exn 1) (ax_exn 0))) (by decide +kernel))
  · refine ⟨hbl, Nat.zero_le _, Nat.zero_le _, rfl, fun q _ => rfl, fun a o h => ?_⟩
    have h : (if a = 0 then some (Sum.inr (0, xs.map ax_I)) else none) = some o := h
    by_cases ha : a = 0
    · rw [if_pos ha] at h
      cases h
      subst ha
      refine ⟨⟨fun _ => ⟨_, rfl⟩, fun _ => rfl⟩, scr, hcb, rfl, hkn, hof.1, ?_⟩
      apply Array.toList_inj.mp
      rw [hlist, List.map_map]
      rfl
    · rw [if_neg ha] at h
      cases h
theorem ax_room {p : Program} {l : Launch} {e : Env} {R R' : Room} {s : State} {m : MethodId} {args : Array Value} {below : List Frame} {meth : Method} {c : Code} {T : State} {locs : List Loc} {cells slots : Nat} (X : Stand p l e R s m args below meth c T locs cells slots) (h1 : R'.frames ≤ R.frames) (h2 : R'.cells ≤ R.cells) (h3 : R'.slots ≤ R.slots) (h4 : R'.locals ≤ R.locals) : Stand p l e R' s m args below meth c T locs cells slots :=
  have hr : s.hasRoom e.platform R' = true := by
    have h := X.room
    simp only [State.hasRoom, Bool.and_eq_true, decide_eq_true_eq] at h ⊢
    obtain ⟨⟨⟨⟨g0, g1, g2, g3, g4, g5⟩, g6⟩, g7⟩, g8⟩ := h
    exact ⟨⟨⟨⟨Nat.le_trans (Nat.add_le_add_right (Nat.add_le_add_left h4 _) _) g0, Nat.le_trans (Nat.add_le_add_left h1 _) g1, Nat.le_trans (Nat.add_le_add_left h1 _) g2, Nat.le_trans (Nat.add_le_add_left h4 _) g3, Nat.le_trans (Nat.add_le_add_left h4 _) g4, g5⟩, Nat.le_trans (Nat.add_le_add_left h2 _) g6⟩, Nat.le_trans (Nat.add_le_add_left h3 _) g7⟩, g8⟩
  { X with room := hr }
theorem ax_rm_h0 (d : Nat) (xs : List Int32) : ax_rm d (ax_h0 xs) = ({ frames := d, cells := ax_CM, slots := ax_SM, locals := 60 * d } : Room) := by
  show ({ frames := d, cells := ax_CM - 0, slots := ax_SM - 0, locals := 60 * d } : Room) = _
  rw [Nat.sub_zero, Nat.sub_zero]
/-- WHAT IS LEFT: on every script the law's term says 1 -/
def ax_True : Prop := ∀ xs : List Int32, xs.length ≤ 4 → ∃ h', Law_law_b (ax_F 1391) (some 0) (ax_h0 xs) = some (.inl (some (ax_I 1)), h')
set_option maxHeartbeats 4000000 in
theorem lw_walk (hT : ax_True) (l : Launch) (hl : l.stackTraces = false) (b : Addr) (xs : List Int32) : MetFree l x (headSpec (Jvm.Cond.code x code maxLocals ret :: tables_1) room_1) (lw_P b xs) (fun _ _ _ _ _ => True) lw_Q := by
  refine MetFree.of_bodyS (code := code) (maxLocals := maxLocals) (ret := ret) (by decide) ?_ ?_
  · intro args s m h hn
    obtain ⟨meth, c, h1, h2, h3, h4, h5, h6, -, -⟩ := Cond.code_spec hn (atoms_spec (ws := Jvm.Cond.code x code maxLocals ret :: tables_1) h _ List.mem_cons_self)
    exact ⟨meth, c, h1, h2, h3, h4, h5, h6⟩
  · intro p e s m args below meth c s₁ B hml0 hP _
    obtain ⟨rfl, hx, hbd, hgv⟩ := hP
    obtain ⟨scr, harrAt, hlist, hof, hsmall⟩ := hx
    obtain ⟨hcb, hkn, -, -⟩ := State.arrayAt?_spec harrAt
    have hown : s.vm.findClass "SchemaDeskLaw" = some m.cls := findClass_of_methodNamed B.named
    have hts0 : ∀ c ∈ (Jvm.Cond.code x code maxLocals ret :: tables_1), c.before #[Value.ref b] s = true := atoms_spec (ws := Jvm.Cond.code x code maxLocals ret :: tables_1) B.pre
    have hts : ∀ w ∈ lw_tbl, w.before #[Value.ref b] s = true := k2_hts_sels lw_privs (fun w hw => hts0 w (List.mem_cons_of_mem _ hw)) lw_privs_ok
    have hml : c.maxLocals = 8 := B.maxLocals_eq (hts0 _ List.mem_cons_self)
    have hh0 : s₁.heap = s.heap := by rw [B.state]; rfl
    obtain ⟨h', hh⟩ := hT xs hbd
    obtain ⟨G, hK, hR, hz, hb⟩ := ax_start hts hcb hkn hof hlist hgv
    have hv : ax_v G (ax_A (some 0)) = Value.ref b := by
      show Value.ref (if 0 = 0 then G.2.2.2.1 else _) = _
      rw [if_pos rfl, hb]
    have hlv := lv_entry [Value.ref b] (n := 8) (Nat.le_of_ble_eq_true rfl)
    have hm : lv_args 0 [Value.ref b] = ax_m G [(0, ax_A (some 0))] := by
      show [(0, Value.ref b)] = [(0, ax_v G (ax_A (some 0)))]
      rw [hv]
    rw [hm] at hlv
    have hcw := hts0 _ List.mem_cons_self
    have K := Law_law_w (ax_F_ok (G := G) hl 1391) (p := p) (e := e) (s := s) (mi := m) (args := #[Value.ref b]) (below := below) (meth := meth) (c := c) (h0 := ax_h0 xs) ⟨B.exec, B.bytes, hml, B.returns, B.notSynchronized, hown, hK⟩ (B.noHandlers hcw) (name_of_methodNamed B.named B.method).1 (some 0) (ax_h0 xs) _ h' hh s.heap [] 0 0 _ hlv hR (Nat.zero_add _) (Nat.zero_add _) (fun q hq => by cases hq)
    have X1 : Stand p l e (ax_rm (1391 + 8 + 1) (ax_h0 xs)) s m #[Value.ref b] below meth c s₁ [] 0 0 := by
      rw [ax_rm_h0]
      exact ax_room (Stand.of_body B) (show 1391 + 8 + 1 ≤ 2048 from Nat.le_of_ble_eq_true rfl) (show ax_CM ≤ 600002 from Nat.le_of_ble_eq_true rfl) (show ax_SM ≤ 7302232 from Nat.le_of_ble_eq_true rfl) (show 60 * (1391 + 8 + 1) ≤ 84000 from Nat.le_of_ble_eq_true rfl)
    obtain ⟨t, a1, o2, b1, b2, b3, b4, L, k, n, ⟨b5, b5'⟩, b6, b7, b8⟩ := K s₁ hh0 X1
    have b3 : o2 = .returned (some (.int 1)) := b3
    refine ⟨t, o2, ?_, b1, b2, b3, ⟨_, b3⟩, b5, ?_⟩
    · have e1 : entryFrame m #[Value.ref b] maxLocals = _ := lg_entry_eq (m := m) (vs := [Value.ref b]) (n := 8)
      rw [e1]
      exact a1
    · have c1 : k + 0 = h'.1 := b6
      have c2 : n + 0 = h'.2.1 := b7
      have c3 : h'.1 ≤ ax_CM := b4.2.1
      have c4 : h'.2.1 ≤ ax_SM := b4.2.2.1
      exact b5'.weaken (fun y hy hlt => absurd hlt (Nat.not_lt.mpr (by rw [← hz]; exact b8 y hy))) (by show k ≤ ax_CM; omega) (by show n ≤ ax_SM; omega)
theorem lw_pre_spec {args : Array Value} {s : State} (h : (Jvm.Cond.and given_1 narrow_1).before args s = true) (hr : rest_1_c.before args s = true) : ∃ (b : Addr) (xs : List Int32), lw_P b xs args s := by
  have hs := flat_of_before _ h
  have hq := flat_of_before _ hr
  have hc : (Cond.count 1).before args s = true := hs _ (by decide +kernel)
  have harr : (Cond.arrayOf (.arg 0) .int).before args s = true := hs _ (by decide +kernel)
  have hle : (Cond.le (.length (.arg 0)) (.int 4)).before args s = true := hs _ (by decide +kernel)
  have hlen : (Cond.isInt (.length (.arg 0))).before args s = true := hq _ (by decide +kernel)
  have hall : (Cond.all (.arg 0) (.isInt (.elem (.arg 0) (.index 0)))).before args s = true := hq _ (by decide +kernel)
  obtain ⟨b, xs, hb, hx⟩ := State.ints_of_pre rfl harr hlen hall
  have hsm : xs.length < 2 ^ 31 := hx.choose_spec.2.2.2
  have hev : (Term.length (.arg 0)).eval args s none [] s = some (.int xs.length.toInt32) := hx.length_eval hb
  have hv := Cond.le_ints hev (show (Term.int 4).eval args s none [] s = some (.int 4) from rfl)
  have hd : xs.length.toInt32 ≤ 4 := by
    simpa [Cond.before, Cond.holds, hv] using hle
  have hN : xs.length ≤ 4 := (Int32.ofNat_le_ofNat hsm (by decide)).mp (show Int32.ofNat xs.length ≤ Int32.ofNat 4 from hd)
  exact ⟨b, xs, Cond.one_arg hc (show args[0]? = some (.ref b) from hb), hx, hN, h⟩
theorem lw_comes (hT : ax_True) (l : Launch) (hl : l.stackTraces = false) : Comes l x (Jvm.Cond.code x code maxLocals ret :: tables_1) room_1 (fun tb e args s => Calls_1 tb e args s ∧ rest_1 tb e args s ∧ Pre_1 tb e args s)
    (fun _ _ args s o t => lw_Q args s o t) := by
  intro p e ha hc hk s m args below hf hfit hheap happ hpre
  obtain ⟨b, xs, hP⟩ := lw_pre_spec hpre.2.2 hpre.2.1
  obtain ⟨k, o, h1, h2, h3, hQ⟩ := lw_walk hT l hl b xs p e ha hc hk s m args below hf ((Spec.applies_iff_loose hf).mp happ).1 hP trivial
  exact ⟨k, o, h1, h2, h3, hQ⟩
theorem lw_frame {s t : State} {o : Outcome} {args : Array Value} (h : Framed s o t [] 600002 7302232) :
    Framed s o t (fieldLocs frame_1_writes args s ++ arrayLocs frame_1_arrays args s ++ staticLocs frame_1_statics s) 600002 7302232 := h
theorem lw_limb (hT : ax_True) (L : Cond) (hL : ∀ (args : Array Value) (s t : State), L.after args s (.returned (some (.int 1))) t = true) :
    ArmFor flags0 classFile x code maxLocals ret World_1 tables_1 room_1 Calls_1 rest_1 Pre_1
      (fun tb e a s o t => postC L tb e a s o t ∧ Framed s o t (fieldLocs frame_1_writes a s ++ arrayLocs frame_1_arrays a s ++ staticLocs frame_1_statics s) 600002 7302232) := by
  intro l hfl _ _ p e ha hc hk s m args below hf hfit hheap happ hpre
  have hl : l.stackTraces = false := by
    unfold Launch.stackTraces
    rw [hfl]
    decide +kernel
  obtain ⟨k, o, h1, h2, h3, rfl, hF⟩ := lw_comes hT l hl p e ha hc hk s m args below hf hfit hheap happ hpre
  exact ⟨k, _, h1, h2, h3, hL args s _, lw_frame hF⟩
theorem ax_claim (hT : ax_True) : Claimed_1_1 ∧ Claimed_1_2 := ⟨lw_limb hT limb_1_1 (fun args s t => by simp [limb_1_1, Cond.after, Cond.holds, Cond.value]), lw_limb hT limb_1_2 (fun args s t => Cond.after_iff.mpr (by
  first | (rw [show limb_1_2 = Cond.eq .result (.int 1) from rfl, Cond.eq_ints (x := 1) (y := 1) rfl rfl]; simp; done) | (simp [limb_1_2, Cond.value, Term.eval]; done)))⟩

