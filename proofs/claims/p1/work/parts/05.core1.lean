/-- a value that a class of the claim may hold: an int, a long, a reference -/
abbrev ax_T : Type := Int32 ⊕ Int64 ⊕ Option Nat
abbrev ax_I (x : Int32) : ax_T := Sum.inl x
abbrev ax_L (x : Int64) : ax_T := Sum.inr (Sum.inl x)
abbrev ax_A (x : Option Nat) : ax_T := Sum.inr (Sum.inr x)
/-- the tables' numbers; array classes by kind; where the run's own cells begin; the script's cell; what lies below -/
abbrev ax_G : Type := va_G × (Nat → ClassId) × Nat × Nat × (Nat → Option Cell)
/-- the addresses: 0 is the script, the others are the run's own cells in order -/
def ax_ad (G : ax_G) (i : Nat) : Nat := if i = 0 then G.2.2.2.1 else G.2.2.1 + (i - 1)
def ax_v (G : ax_G) : ax_T → Value
  | .inl x => .int x
  | .inr (.inl x) => .long x
  | .inr (.inr none) => .null
  | .inr (.inr (some a)) => .ref (ax_ad G a)
def ax_two : ax_T → Bool
  | .inr (.inl _) => true
  | _ => false
theorem ax_cat (G : ax_G) (t : ax_T) : ((ax_v G t).category == 2) = ax_two t := by
  rcases t with x | x | x | x <;> rfl
def ax_m (G : ax_G) (tv : List (Nat × ax_T)) : List (Nat × Value) := tv.map fun q => (q.1, ax_v G q.2)
/-- a cell's picture: .inl (number of its class, fields), .inr (kind of array, elements) -/
abbrev ax_Ob : Type := (Nat × List ax_T) ⊕ (Nat × List ax_T)
/-- cells made; slots made; what lies where (0: the script; the others from 1 on) -/
abbrev ax_Hp : Type := Nat × Nat × (Nat → Option ax_Ob)
/-- how a call ends: an answer, or (kind of exception, its address) -/
abbrev ax_Rs : Type := Option ax_T ⊕ (Nat × Nat)
abbrev ax_O : Type := Option (ax_Rs × ax_Hp)
def ax_set (h : ax_Hp) (a : Nat) (o : ax_Ob) : ax_Hp := (h.1, h.2.1, fun q => if q = a then some o else h.2.2 q)
def ax_at? (h : ax_Hp) (x : Option Nat) : Option ax_Ob := x.bind h.2.2
def ax_obj (h : ax_Hp) (x : Option Nat) (ci : Nat) : Option (List ax_T) := match ax_at? h x with
  | some (.inl (c, fs)) => if c = ci then some fs else none
  | _ => none
def ax_arr (h : ax_Hp) (x : Option Nat) (kd : Nat) : Option (List ax_T) := match ax_at? h x with
  | some (.inr (k, es)) => if k = kd then some es else none
  | _ => none
def ax_ti : Option ax_T → Option Int32
  | some (.inl v) => some v
  | _ => none
def ax_tl : Option ax_T → Option Int64
  | some (.inr (.inl v)) => some v
  | _ => none
def ax_tr : Option ax_T → Option (Option Nat)
  | some (.inr (.inr v)) => some v
  | _ => none
def ax_gf (h : ax_Hp) (x : Option Nat) (ci k : Nat) : Option ax_T := (ax_obj h x ci).bind fun fs => fs[k]?
def ax_gi (h : ax_Hp) (x : Option Nat) (ci k : Nat) : Option Int32 := ax_ti (ax_gf h x ci k)
def ax_gl (h : ax_Hp) (x : Option Nat) (ci k : Nat) : Option Int64 := ax_tl (ax_gf h x ci k)
def ax_gr (h : ax_Hp) (x : Option Nat) (ci k : Nat) : Option (Option Nat) := ax_tr (ax_gf h x ci k)
def ax_put (h : ax_Hp) (x : Option Nat) (o : ax_Ob) : ax_Hp := match x with
  | some a => ax_set h a o
  | none => h
def ax_pf (h : ax_Hp) (x : Option Nat) (ci k : Nat) (v : ax_T) : Option ax_Hp := (ax_obj h x ci).bind fun fs => if k < fs.length then some (ax_put h x (.inl (ci, fs.set k v))) else none
def ax_pz (h : ax_Hp) (x : Option Nat) (ci k : Nat) (v : Int32) : Option ax_Hp := if v = 0 ∨ v = 1 then ax_pf h x ci k (ax_I v) else none
def ax_len (h : ax_Hp) (x : Option Nat) (kd : Nat) : Option Int32 := (ax_arr h x kd).map fun es => Int32.ofNat es.length
def ax_ld (h : ax_Hp) (x : Option Nat) (kd : Nat) (i : Int32) : Option ax_T := (ax_arr h x kd).bind fun es => if i < 0 then none else es[i.toNatClampNeg]?
def ax_ldi (h : ax_Hp) (x : Option Nat) (kd : Nat) (i : Int32) : Option Int32 := ax_ti (ax_ld h x kd i)
def ax_ldl (h : ax_Hp) (x : Option Nat) (kd : Nat) (i : Int32) : Option Int64 := ax_tl (ax_ld h x kd i)
def ax_ldr (h : ax_Hp) (x : Option Nat) (kd : Nat) (i : Int32) : Option (Option Nat) := ax_tr (ax_ld h x kd i)
def ax_st (h : ax_Hp) (x : Option Nat) (kd : Nat) (i : Int32) (v : ax_T) : Option ax_Hp := (ax_arr h x kd).bind fun es => if i < 0 ∨ es.length ≤ i.toNatClampNeg then none else some (ax_put h x (.inr (kd, es.set i.toNatClampNeg v)))
def ax_nc (x : Int32) : Int32 := x.toUInt32.toUInt16.toUInt32.toInt32
def ax_stc (h : ax_Hp) (x : Option Nat) (kd : Nat) (i : Int32) (v : Int32) : Option ax_Hp := ax_st h x kd i (ax_I (ax_nc v))
def ax_stz (h : ax_Hp) (x : Option Nat) (kd : Nat) (i : Int32) (v : Int32) : Option ax_Hp := ax_st h x kd i (ax_I (v &&& 1))
def ax_add (h : ax_Hp) (n : Nat) (o : Option ax_Ob) : Option (Nat × ax_Hp) :=
  if h.1 + 1 ≤ ax_CM ∧ h.2.1 + n ≤ ax_SM then some (h.1 + 1, (h.1 + 1, h.2.1 + n, fun q => if q = h.1 + 1 then o else h.2.2 q)) else none
def ax_nw (r : Option (Nat × ax_Hp)) (q : Nat → ax_Hp → ax_O) : ax_O := r.bind fun y => q y.1 y.2
def ax_new (h : ax_Hp) (ci : Nat) (fs : List ax_T) : Option (Nat × ax_Hp) := ax_add h fs.length (some (.inl (ci, fs)))
def ax_na (h : ax_Hp) (kd : Nat) (n : Int32) (dv : ax_T) : Option (Nat × ax_Hp) :=
  if n < 0 ∨ 1000000 < n.toNatClampNeg then none else ax_add h n.toNatClampNeg (some (.inr (kd, List.replicate n.toNatClampNeg dv)))
/-- behind a call: by the type of its answer; an exception goes on -/
def ax_ci (f : ax_O) (k : Int32 → ax_Hp → ax_O) : ax_O := match f with
  | some (.inl (some (.inl v)), h) => k v h
  | some (.inr x, h) => some (.inr x, h)
  | _ => none
def ax_cl (f : ax_O) (k : Int64 → ax_Hp → ax_O) : ax_O := match f with
  | some (.inl (some (.inr (.inl v))), h) => k v h
  | some (.inr x, h) => some (.inr x, h)
  | _ => none
def ax_cr (f : ax_O) (k : Option Nat → ax_Hp → ax_O) : ax_O := match f with
  | some (.inl (some (.inr (.inr v))), h) => k v h
  | some (.inr x, h) => some (.inr x, h)
  | _ => none
def ax_cv (f : ax_O) (k : ax_Hp → ax_O) : ax_O := match f with
  | some (.inl none, h) => k h
  | some (.inr x, h) => some (.inr x, h)
  | _ => none
/-- answers -/
def ax_rz (n : Int32) (h : ax_Hp) : ax_O := if n = 0 ∨ n = 1 then some (.inl (some (ax_I n)), h) else none
def ax_rc (n : Int32) (h : ax_Hp) : ax_O := if ax_nc n = n then some (.inl (some (ax_I n)), h) else none
def ax_ri (n : Int32) (h : ax_Hp) : ax_O := some (.inl (some (ax_I n)), h)
def ax_rl (n : Int64) (h : ax_Hp) : ax_O := some (.inl (some (ax_L n)), h)
def ax_rr (x : Option Nat) (h : ax_Hp) : ax_O := some (.inl (some (ax_A x)), h)
def ax_rv (h : ax_Hp) : ax_O := some (.inl none, h)
/-- a divisor that isn't 0 -/
def ax_nz (y : Int32) (k : ax_O) : ax_O := if y = 0 then none else k
def ax_nzl (y : Int64) (k : ax_O) : ax_O := if y = 0 then none else k
def ax_at (G : ax_G) (a : Nat) (o : ax_Ob) (H : Heap) : Prop := match o with
  | .inl q => ∃ r : vw_C, vwCl[q.1]? = some r ∧ q.2.length = r.2.2 ∧ t_OB (ax_ad G a) (G.1.1 q.1) r.2.2 (G.1.2 q.1) H (vp_V (q.2.map (ax_v G)))
  | .inr q => ∃ cell : Cell, H[ax_ad G a]? = some cell ∧ cell.cls = G.2.1 q.1 ∧ cell.vm ≠ .unknown ∧ (∀ k, cell.vm ≠ .statics k) ∧ cell.slots = (q.2.map (ax_v G)).toArray
/-- the heap is as the picture says -/
def ax_R (G : ax_G) (h : ax_Hp) (H : Heap) : Prop := G.2.2.2.1 < G.2.2.1 ∧ h.1 ≤ ax_CM ∧ h.2.1 ≤ ax_SM ∧ H.size = G.2.2.1 + h.1 ∧ (∀ q : Nat, q < G.2.2.1 → H[q]? = G.2.2.2.2 q) ∧ ∀ (a : Nat) (o : ax_Ob), h.2.2 a = some o → (a = 0 ↔ ∃ es, o = .inr (0, es)) ∧ ax_at G a o H
def ax_rm (d : Nat) (h : ax_Hp) : Room := { frames := d, cells := ax_CM - h.1, slots := ax_SM - h.2.1, locals := 60 * d }
def ax_out (G : ax_G) (r : ax_Rs) (o : Outcome) (t : State) : Prop := match r with
  | .inl v => o = .returned (v.map (ax_v G))
  | .inr q => o = .threw (ax_ad G q.2) ∧ ax_exc q.1 (ax_ad G q.2) t
/-- how a method's state ends -/
def ax_Q (G : ax_G) (below : List Frame) (s : State) (h0 : ax_Hp) (r : ax_Rs) (h' : ax_Hp) : State → Prop := fun t =>
  ∃ o, t.status = .running ∧ Ended t below o ∧ ax_out G r o t ∧ ax_R G h' t.heap ∧ ∃ (L : List Loc) (k n : Nat), (s.WarmedH t.vm ∧ s.sameButNew ({ t with vm := s.vm } : State) L k n) ∧ k + h0.1 = h'.1 ∧ n + h0.2.1 = h'.2.1 ∧ ∀ q ∈ L, G.2.2.1 ≤ q.base
/-- from here the method ends as o says, if o says something -/
def ax_W (G : ax_G) (p : Program) (l : Launch) (e : Env) (s : State) (m : MethodId) (args : Array Value) (below : List Frame) (meth : Method) (c : Code) (nL d : Nat) (h0 : ax_Hp) (pc : Nat) (tv : List (Nat × ax_T)) (st : List ax_T) (h : ax_Hp) (o : ax_O) : Prop :=
  ∀ (r : ax_Rs) (h' : ax_Hp), o = some (r, h') → ∀ (H : Heap) (locs : List Loc) (cells slots : Nat) (ls : Array Slot), lv_has ls nL (ax_m G tv) → ax_R G h H → cells + h0.1 = h.1 → slots + h0.2.1 = h.2.1 → (∀ q ∈ locs, G.2.2.1 ≤ q.base) →
    W p l e (ax_rm d h0) s m args below meth c H locs cells slots (ax_Q G below s h0 r h') (F0 m pc ls (st.map (ax_v G)))
/-- what is known inside a method's body -/
def ax_B (G : ax_G) (p : Program) (s : State) (m : MethodId) (meth : Method) (c : Code) (own : String) (cc : ByteArray) (nL : Nat) (ret : Option FieldType) : Prop :=
  p.tables.exec = Jvm.exec ∧ c.code = cc ∧ c.maxLocals = nL ∧ meth.sig.returnType = ret ∧ meth.locks = false ∧ s.vm.findClass own = some m.cls ∧ ax_K G s
theorem ax_lat {G : ax_G} {ls : Array Slot} {nL : Nat} {tv : List (Nat × ax_T)} (h : lv_has ls nL (ax_m G tv)) (k : Nat) {i : Nat} {t : ax_T} (hk : tv[k]? = some (i, t)) : ls[i]? = some (.val (ax_v G t)) :=
  lv_at h k (by simp [ax_m, hk])
theorem ax_flt1 (G : ax_G) (tv : List (Nat × ax_T)) (i : Nat) : (ax_m G tv).filter (fun q => !(q.1 == i) && !(q.1 + 1 == i && q.2.category == 2)) = ax_m G (tv.filter (fun q => !(q.1 == i) && !(q.1 + 1 == i && ax_two q.2))) := by
  simp only [ax_m, List.filter_map]
  congr 2
  funext q
  simp only [Function.comp, ax_cat]
theorem ax_flt2 (G : ax_G) (tv : List (Nat × ax_T)) (i : Nat) : (ax_m G tv).filter (fun q => !(q.1 == i) && (!(q.1 == i + 1) && !(q.1 + 1 == i && q.2.category == 2))) = ax_m G (tv.filter (fun q => !(q.1 == i) && (!(q.1 == i + 1) && !(q.1 + 1 == i && ax_two q.2)))) := by
  simp only [ax_m, List.filter_map]
  congr 2
  funext q
  simp only [Function.comp, ax_cat]
theorem ax_one {G : ax_G} {t : ax_T} (h : ax_two t = false) : (ax_v G t).category = 1 := by
  rcases t with x | x | x | x <;> first | rfl | cases h
theorem ax_twoc {G : ax_G} {t : ax_T} (h : ax_two t = true) : (ax_v G t).category = 2 := by
  rcases t with x | x | x | x <;> first | rfl | cases h
section AX1
variable {G : ax_G} {p : Program} {l : Launch} {e : Env} {s : State} {m : MethodId} {args : Array Value} {below : List Frame} {meth : Method} {c : Code} {own : String} {cc : ByteArray} {nL : Nat} {ret : Option FieldType} {d : Nat} {h0 h : ax_Hp} {pc : Nat} {tv : List (Nat × ax_T)} {rest : List ax_T} {o : ax_O}
theorem ax_lift {pc1 pc2 : Nat} {tv1 tv2 : List (Nat × ax_T)} {st1 st2 : List ax_T}
    (f : ∀ (H : Heap) (locs : List Loc) (cells slots : Nat) (Q : State → Prop) (ls : Array Slot), lv_has ls nL (ax_m G tv1) → (∀ ls2 : Array Slot, lv_has ls2 nL (ax_m G tv2) → W p l e (ax_rm d h0) s m args below meth c H locs cells slots Q (F0 m pc2 ls2 (st2.map (ax_v G)))) → W p l e (ax_rm d h0) s m args below meth c H locs cells slots Q (F0 m pc1 ls (st1.map (ax_v G))))
    (k : ax_W G p l e s m args below meth c nL d h0 (pc2) tv2 (st2) h o) : ax_W G p l e s m args below meth c nL d h0 (pc1) tv1 (st1) h o :=
  fun r h' e1 H locs cells slots ls hl hR a b cL => f H locs cells slots _ ls hl (fun ls2 hl2 => k r h' e1 H locs cells slots ls2 hl2 hR a b cL)
def ax_pick (l : List (Nat × ax_T)) (ks : List Nat) : List (Nat × ax_T) := ks.filterMap (fun k => l[k]?)
theorem ax_sub {tv2 : List (Nat × ax_T)} {st : List ax_T} (ks : List Nat) (hk : ax_pick tv ks = tv2) (k : ax_W G p l e s m args below meth c nL d h0 (pc) tv2 (st) h o) : ax_W G p l e s m args below meth c nL d h0 (pc) tv (st) h o :=
  ax_lift (fun _ _ _ _ _ ls hl k => k ls (lv_sub hl ks (by
    subst hk
    simp only [lv_pick, ax_pick, ax_m, List.getElem?_map, List.map_filterMap]))) k
theorem ax_none {st : List ax_T} : ax_W G p l e s m args below meth c nL d h0 (pc) tv (st) h none := fun _ _ e1 => by cases e1
theorem ax_eq {st : List ax_T} {o2 : ax_O} (he : o = o2) (k : ax_W G p l e s m args below meth c nL d h0 (pc) tv (st) h o2) : ax_W G p l e s m args below meth c nL d h0 (pc) tv (st) h o := he ▸ k
theorem ax_iconst (B : ax_B G p s m meth c own cc nL ret) {n : Int} {v : Int32} (hd : decode cc pc = .ok (.iconst n, 1)) (hv : Int32.ofInt n = v) (k : ax_W G p l e s m args below meth c nL d h0 (pc + 1) tv (ax_I v :: rest) h o) : ax_W G p l e s m args below meth c nL d h0 (pc) tv (rest) h o :=
  ax_lift (fun _ _ _ _ _ ls hl k => lv_iconst B.1 B.2.1 hd hv (k ls hl)) k
theorem ax_bipush (B : ax_B G p s m meth c own cc nL ret) {n : Int} {v : Int32} (hd : decode cc pc = .ok (.bipush n, 2)) (hv : (Int8.ofInt n).toInt32 = v) (k : ax_W G p l e s m args below meth c nL d h0 (pc + 2) tv (ax_I v :: rest) h o) : ax_W G p l e s m args below meth c nL d h0 (pc) tv (rest) h o :=
  ax_lift (fun _ _ _ _ _ ls hl k => lv_bipush B.1 B.2.1 hd hv (k ls hl)) k
theorem ax_sipush (B : ax_B G p s m meth c own cc nL ret) {n : Int} {v : Int32} (hd : decode cc pc = .ok (.sipush n, 3)) (hv : (Int16.ofInt n).toInt32 = v) (k : ax_W G p l e s m args below meth c nL d h0 (pc + 3) tv (ax_I v :: rest) h o) : ax_W G p l e s m args below meth c nL d h0 (pc) tv (rest) h o :=
  ax_lift (fun _ _ _ _ _ ls hl k => lv_sipush B.1 B.2.1 hd hv (k ls hl)) k
theorem ax_lconst (B : ax_B G p s m meth c own cc nL ret) {n : Fin 2} {v : Int64} (hd : decode cc pc = .ok (.lconst n, 1)) (hv : Int64.ofNat (n : Nat) = v) (k : ax_W G p l e s m args below meth c nL d h0 (pc + 1) tv (ax_L v :: rest) h o) : ax_W G p l e s m args below meth c nL d h0 (pc) tv (rest) h o :=
  ax_lift (fun _ _ _ _ _ ls hl k => lv_lconst B.1 B.2.1 hd hv (k ls hl)) k
theorem ax_null (B : ax_B G p s m meth c own cc nL ret)  (hd : decode cc pc = .ok (.aconst_null, 1))  (k : ax_W G p l e s m args below meth c nL d h0 (pc + 1) tv (ax_A none :: rest) h o) : ax_W G p l e s m args below meth c nL d h0 (pc) tv (rest) h o :=
  ax_lift (fun _ _ _ _ _ ls hl k => lv_null B.1 B.2.1 hd  (k ls hl)) k
theorem ax_iload_n (B : ax_B G p s m meth c own cc nL ret) {n : Fin 4} {i : Nat} {x : Int32} (k0 : Nat) (hd : decode cc pc = .ok (.iload_n n, 1)) (hi : (n : Nat) = i) (hk : tv[k0]? = some (i, ax_I x)) (k : ax_W G p l e s m args below meth c nL d h0 (pc + 1) tv (ax_I x :: rest) h o) : ax_W G p l e s m args below meth c nL d h0 (pc) tv (rest) h o :=
  ax_lift (fun _ _ _ _ _ ls hl k => lv_iload_n B.1 B.2.1 hd hi (ax_lat hl k0 hk) (k ls hl)) k
theorem ax_iload (B : ax_B G p s m meth c own cc nL ret) {i : Nat} {x : Int32} (k0 : Nat) (hd : decode cc pc = .ok (.iload i, 2))  (hk : tv[k0]? = some (i, ax_I x)) (k : ax_W G p l e s m args below meth c nL d h0 (pc + 2) tv (ax_I x :: rest) h o) : ax_W G p l e s m args below meth c nL d h0 (pc) tv (rest) h o :=
  ax_lift (fun _ _ _ _ _ ls hl k => lv_iload B.1 B.2.1 hd  (ax_lat hl k0 hk) (k ls hl)) k
theorem ax_lload_n (B : ax_B G p s m meth c own cc nL ret) {n : Fin 4} {i : Nat} {x : Int64} (k0 : Nat) (hd : decode cc pc = .ok (.lload_n n, 1)) (hi : (n : Nat) = i) (hk : tv[k0]? = some (i, ax_L x)) (k : ax_W G p l e s m args below meth c nL d h0 (pc + 1) tv (ax_L x :: rest) h o) : ax_W G p l e s m args below meth c nL d h0 (pc) tv (rest) h o :=
  ax_lift (fun _ _ _ _ _ ls hl k => lv_lload_n B.1 B.2.1 hd hi (ax_lat hl k0 hk) (k ls hl)) k
theorem ax_lload (B : ax_B G p s m meth c own cc nL ret) {i : Nat} {x : Int64} (k0 : Nat) (hd : decode cc pc = .ok (.lload i, 2))  (hk : tv[k0]? = some (i, ax_L x)) (k : ax_W G p l e s m args below meth c nL d h0 (pc + 2) tv (ax_L x :: rest) h o) : ax_W G p l e s m args below meth c nL d h0 (pc) tv (rest) h o :=
  ax_lift (fun _ _ _ _ _ ls hl k => lv_lload B.1 B.2.1 hd  (ax_lat hl k0 hk) (k ls hl)) k
theorem ax_aload_n (B : ax_B G p s m meth c own cc nL ret) {n : Fin 4} {i : Nat} {x : Option Nat} (k0 : Nat) (hd : decode cc pc = .ok (.aload_n n, 1)) (hi : (n : Nat) = i) (hk : tv[k0]? = some (i, ax_A x)) (k : ax_W G p l e s m args below meth c nL d h0 (pc + 1) tv (ax_A x :: rest) h o) : ax_W G p l e s m args below meth c nL d h0 (pc) tv (rest) h o := by
  cases x with
  | none => exact ax_lift (fun _ _ _ _ _ ls hl k => lv_aload_nN B.1 B.2.1 hd hi (ax_lat hl k0 hk) (k ls hl)) k
  | some a => exact ax_lift (fun _ _ _ _ _ ls hl k => lv_aload_n B.1 B.2.1 hd hi (ax_lat hl k0 hk) (k ls hl)) k
theorem ax_aload (B : ax_B G p s m meth c own cc nL ret) {i : Nat} {x : Option Nat} (k0 : Nat) (hd : decode cc pc = .ok (.aload i, 2))  (hk : tv[k0]? = some (i, ax_A x)) (k : ax_W G p l e s m args below meth c nL d h0 (pc + 2) tv (ax_A x :: rest) h o) : ax_W G p l e s m args below meth c nL d h0 (pc) tv (rest) h o := by
  cases x with
  | none => exact ax_lift (fun _ _ _ _ _ ls hl k => lv_aloadN B.1 B.2.1 hd  (ax_lat hl k0 hk) (k ls hl)) k
  | some a => exact ax_lift (fun _ _ _ _ _ ls hl k => lv_aload B.1 B.2.1 hd  (ax_lat hl k0 hk) (k ls hl)) k
theorem ax_istore_n (B : ax_B G p s m meth c own cc nL ret) {n : Fin 4} {i : Nat} {x : Int32} {tv2 : List (Nat × ax_T)} (hd : decode cc pc = .ok (.istore_n n, 1)) (hi : (n : Nat) = i) (hn : i < nL) (hl2 : (i, ax_I x) :: tv.filter (fun q => !(q.1 == i) && !(q.1 + 1 == i && ax_two q.2)) = tv2) (k : ax_W G p l e s m args below meth c nL d h0 (pc + 1) tv2 (rest) h o) : ax_W G p l e s m args below meth c nL d h0 (pc) tv (ax_I x :: rest) h o := by
  subst hl2
  exact ax_lift (fun _ _ _ _ _ ls hl k => lv_istore_n B.1 B.2.1 hd hi hl hn (by rw [ax_flt1]; rfl) k) k
theorem ax_istore (B : ax_B G p s m meth c own cc nL ret) {i : Nat} {x : Int32} {tv2 : List (Nat × ax_T)} (hd : decode cc pc = .ok (.istore i, 2))  (hn : i < nL) (hl2 : (i, ax_I x) :: tv.filter (fun q => !(q.1 == i) && !(q.1 + 1 == i && ax_two q.2)) = tv2) (k : ax_W G p l e s m args below meth c nL d h0 (pc + 2) tv2 (rest) h o) : ax_W G p l e s m args below meth c nL d h0 (pc) tv (ax_I x :: rest) h o := by
  subst hl2
  exact ax_lift (fun _ _ _ _ _ ls hl k => lv_istore B.1 B.2.1 hd  hl hn (by rw [ax_flt1]; rfl) k) k
theorem ax_lstore_n (B : ax_B G p s m meth c own cc nL ret) {n : Fin 4} {i : Nat} {x : Int64} {tv2 : List (Nat × ax_T)} (hd : decode cc pc = .ok (.lstore_n n, 1)) (hi : (n : Nat) = i) (hn : i + 1 < nL) (hl2 : (i, ax_L x) :: tv.filter (fun q => !(q.1 == i) && (!(q.1 == i + 1) && !(q.1 + 1 == i && ax_two q.2))) = tv2) (k : ax_W G p l e s m args below meth c nL d h0 (pc + 1) tv2 (rest) h o) : ax_W G p l e s m args below meth c nL d h0 (pc) tv (ax_L x :: rest) h o := by
  subst hl2
  exact ax_lift (fun _ _ _ _ _ ls hl k => lv_lstore_n B.1 B.2.1 hd hi hl hn (by rw [ax_flt2]; rfl) k) k
theorem ax_lstore (B : ax_B G p s m meth c own cc nL ret) {i : Nat} {x : Int64} {tv2 : List (Nat × ax_T)} (hd : decode cc pc = .ok (.lstore i, 2))  (hn : i + 1 < nL) (hl2 : (i, ax_L x) :: tv.filter (fun q => !(q.1 == i) && (!(q.1 == i + 1) && !(q.1 + 1 == i && ax_two q.2))) = tv2) (k : ax_W G p l e s m args below meth c nL d h0 (pc + 2) tv2 (rest) h o) : ax_W G p l e s m args below meth c nL d h0 (pc) tv (ax_L x :: rest) h o := by
  subst hl2
  exact ax_lift (fun _ _ _ _ _ ls hl k => lv_lstore B.1 B.2.1 hd  hl hn (by rw [ax_flt2]; rfl) k) k
theorem ax_astore_n (B : ax_B G p s m meth c own cc nL ret) {n : Fin 4} {i : Nat} {x : Option Nat} {tv2 : List (Nat × ax_T)} (hd : decode cc pc = .ok (.astore_n n, 1)) (hi : (n : Nat) = i) (hn : i < nL) (hl2 : (i, ax_A x) :: tv.filter (fun q => !(q.1 == i) && !(q.1 + 1 == i && ax_two q.2)) = tv2) (k : ax_W G p l e s m args below meth c nL d h0 (pc + 1) tv2 (rest) h o) : ax_W G p l e s m args below meth c nL d h0 (pc) tv (ax_A x :: rest) h o := by
  subst hl2
  cases x with
  | none => exact ax_lift (fun _ _ _ _ _ ls hl k => lv_astore_nN B.1 B.2.1 hd hi hl hn (by rw [ax_flt1]; rfl) k) k
  | some a => exact ax_lift (fun _ _ _ _ _ ls hl k => lv_astore_n B.1 B.2.1 hd hi hl hn (by rw [ax_flt1]; rfl) k) k
theorem ax_astore (B : ax_B G p s m meth c own cc nL ret) {i : Nat} {x : Option Nat} {tv2 : List (Nat × ax_T)} (hd : decode cc pc = .ok (.astore i, 2))  (hn : i < nL) (hl2 : (i, ax_A x) :: tv.filter (fun q => !(q.1 == i) && !(q.1 + 1 == i && ax_two q.2)) = tv2) (k : ax_W G p l e s m args below meth c nL d h0 (pc + 2) tv2 (rest) h o) : ax_W G p l e s m args below meth c nL d h0 (pc) tv (ax_A x :: rest) h o := by
  subst hl2
  cases x with
  | none => exact ax_lift (fun _ _ _ _ _ ls hl k => lv_astoreN B.1 B.2.1 hd  hl hn (by rw [ax_flt1]; rfl) k) k
  | some a => exact ax_lift (fun _ _ _ _ _ ls hl k => lv_astore B.1 B.2.1 hd  hl hn (by rw [ax_flt1]; rfl) k) k
theorem ax_iinc (B : ax_B G p s m meth c own cc nL ret) {i : Nat} {n : Int} {x v : Int32} {tv2 : List (Nat × ax_T)} (k0 : Nat) (hd : decode cc pc = .ok (.iinc i n, 3)) (hk : tv[k0]? = some (i, ax_I x)) (hv : x + Int32.ofInt n = v) (hn : i < nL) (hl2 : (i, ax_I v) :: tv.filter (fun q => !(q.1 == i) && !(q.1 + 1 == i && ax_two q.2)) = tv2) (k : ax_W G p l e s m args below meth c nL d h0 (pc + 3) tv2 (rest) h o) : ax_W G p l e s m args below meth c nL d h0 (pc) tv (rest) h o := by
  subst hl2
  exact ax_lift (fun _ _ _ _ _ ls hl k => lv_iinc (k := k0) B.1 B.2.1 hd hl (by simp [ax_m, hk, ax_v]) hv hn (by rw [ax_flt1]; rfl) k) k
theorem ax_iadd (B : ax_B G p s m meth c own cc nL ret) {x y : Int32} (hd : decode cc pc = .ok (.iadd, 1))  (k : ax_W G p l e s m args below meth c nL d h0 (pc + 1) tv (ax_I (x + y) :: rest) h o) : ax_W G p l e s m args below meth c nL d h0 (pc) tv (ax_I y :: ax_I x :: rest) h o :=
  ax_lift (fun _ _ _ _ _ ls hl k => lv_iadd B.1 B.2.1 hd  (k ls hl)) k
theorem ax_isub (B : ax_B G p s m meth c own cc nL ret) {x y : Int32} (hd : decode cc pc = .ok (.isub, 1))  (k : ax_W G p l e s m args below meth c nL d h0 (pc + 1) tv (ax_I (x - y) :: rest) h o) : ax_W G p l e s m args below meth c nL d h0 (pc) tv (ax_I y :: ax_I x :: rest) h o :=
  ax_lift (fun _ _ _ _ _ ls hl k => lv_isub B.1 B.2.1 hd  (k ls hl)) k
theorem ax_imul (B : ax_B G p s m meth c own cc nL ret) {x y : Int32} (hd : decode cc pc = .ok (.imul, 1))  (k : ax_W G p l e s m args below meth c nL d h0 (pc + 1) tv (ax_I (x * y) :: rest) h o) : ax_W G p l e s m args below meth c nL d h0 (pc) tv (ax_I y :: ax_I x :: rest) h o :=
  ax_lift (fun _ _ _ _ _ ls hl k => lv_imul B.1 B.2.1 hd  (k ls hl)) k
theorem ax_iand (B : ax_B G p s m meth c own cc nL ret) {x y : Int32} (hd : decode cc pc = .ok (.iand, 1))  (k : ax_W G p l e s m args below meth c nL d h0 (pc + 1) tv (ax_I (x &&& y) :: rest) h o) : ax_W G p l e s m args below meth c nL d h0 (pc) tv (ax_I y :: ax_I x :: rest) h o :=
  ax_lift (fun _ _ _ _ _ ls hl k => lv_iand B.1 B.2.1 hd  (k ls hl)) k
theorem ax_ior (B : ax_B G p s m meth c own cc nL ret) {x y : Int32} (hd : decode cc pc = .ok (.ior, 1))  (k : ax_W G p l e s m args below meth c nL d h0 (pc + 1) tv (ax_I (x ||| y) :: rest) h o) : ax_W G p l e s m args below meth c nL d h0 (pc) tv (ax_I y :: ax_I x :: rest) h o :=
  ax_lift (fun _ _ _ _ _ ls hl k => lv_ior B.1 B.2.1 hd  (k ls hl)) k
theorem ax_ixor (B : ax_B G p s m meth c own cc nL ret) {x y : Int32} (hd : decode cc pc = .ok (.ixor, 1))  (k : ax_W G p l e s m args below meth c nL d h0 (pc + 1) tv (ax_I (x ^^^ y) :: rest) h o) : ax_W G p l e s m args below meth c nL d h0 (pc) tv (ax_I y :: ax_I x :: rest) h o :=
  ax_lift (fun _ _ _ _ _ ls hl k => lv_ixor B.1 B.2.1 hd  (k ls hl)) k
theorem ax_ishl (B : ax_B G p s m meth c own cc nL ret) {x y : Int32} (hd : decode cc pc = .ok (.ishl, 1))  (k : ax_W G p l e s m args below meth c nL d h0 (pc + 1) tv (ax_I (x <<< (y &&& 31)) :: rest) h o) : ax_W G p l e s m args below meth c nL d h0 (pc) tv (ax_I y :: ax_I x :: rest) h o :=
  ax_lift (fun _ _ _ _ _ ls hl k => lv_ishl B.1 B.2.1 hd  (k ls hl)) k
theorem ax_ishr (B : ax_B G p s m meth c own cc nL ret) {x y : Int32} (hd : decode cc pc = .ok (.ishr, 1))  (k : ax_W G p l e s m args below meth c nL d h0 (pc + 1) tv (ax_I (x >>> (y &&& 31)) :: rest) h o) : ax_W G p l e s m args below meth c nL d h0 (pc) tv (ax_I y :: ax_I x :: rest) h o :=
  ax_lift (fun _ _ _ _ _ ls hl k => lv_ishr B.1 B.2.1 hd  (k ls hl)) k
theorem ax_iushr (B : ax_B G p s m meth c own cc nL ret) {x y : Int32} (hd : decode cc pc = .ok (.iushr, 1))  (k : ax_W G p l e s m args below meth c nL d h0 (pc + 1) tv (ax_I ((x.toUInt32 >>> (y.toUInt32 &&& Int32.toUInt32 31)).toInt32) :: rest) h o) : ax_W G p l e s m args below meth c nL d h0 (pc) tv (ax_I y :: ax_I x :: rest) h o :=
  ax_lift (fun _ _ _ _ _ ls hl k => lv_iushr B.1 B.2.1 hd rfl (k ls hl)) k
theorem ax_ineg (B : ax_B G p s m meth c own cc nL ret) {x : Int32} (hd : decode cc pc = .ok (.ineg, 1))  (k : ax_W G p l e s m args below meth c nL d h0 (pc + 1) tv (ax_I (-x) :: rest) h o) : ax_W G p l e s m args below meth c nL d h0 (pc) tv (ax_I x :: rest) h o :=
  ax_lift (fun _ _ _ _ _ ls hl k => lv_ineg B.1 B.2.1 hd  (k ls hl)) k
theorem ax_ladd (B : ax_B G p s m meth c own cc nL ret) {x y : Int64} (hd : decode cc pc = .ok (.ladd, 1))  (k : ax_W G p l e s m args below meth c nL d h0 (pc + 1) tv (ax_L (x + y) :: rest) h o) : ax_W G p l e s m args below meth c nL d h0 (pc) tv (ax_L y :: ax_L x :: rest) h o :=
  ax_lift (fun _ _ _ _ _ ls hl k => lv_ladd B.1 B.2.1 hd  (k ls hl)) k
theorem ax_lsub (B : ax_B G p s m meth c own cc nL ret) {x y : Int64} (hd : decode cc pc = .ok (.lsub, 1))  (k : ax_W G p l e s m args below meth c nL d h0 (pc + 1) tv (ax_L (x - y) :: rest) h o) : ax_W G p l e s m args below meth c nL d h0 (pc) tv (ax_L y :: ax_L x :: rest) h o :=
  ax_lift (fun _ _ _ _ _ ls hl k => lv_lsub B.1 B.2.1 hd  (k ls hl)) k
theorem ax_lmul (B : ax_B G p s m meth c own cc nL ret) {x y : Int64} (hd : decode cc pc = .ok (.lmul, 1))  (k : ax_W G p l e s m args below meth c nL d h0 (pc + 1) tv (ax_L (x * y) :: rest) h o) : ax_W G p l e s m args below meth c nL d h0 (pc) tv (ax_L y :: ax_L x :: rest) h o :=
  ax_lift (fun _ _ _ _ _ ls hl k => lv_lmul B.1 B.2.1 hd  (k ls hl)) k
theorem ax_land (B : ax_B G p s m meth c own cc nL ret) {x y : Int64} (hd : decode cc pc = .ok (.land, 1))  (k : ax_W G p l e s m args below meth c nL d h0 (pc + 1) tv (ax_L (x &&& y) :: rest) h o) : ax_W G p l e s m args below meth c nL d h0 (pc) tv (ax_L y :: ax_L x :: rest) h o :=
  ax_lift (fun _ _ _ _ _ ls hl k => lv_land B.1 B.2.1 hd  (k ls hl)) k
theorem ax_lor (B : ax_B G p s m meth c own cc nL ret) {x y : Int64} (hd : decode cc pc = .ok (.lor, 1))  (k : ax_W G p l e s m args below meth c nL d h0 (pc + 1) tv (ax_L (x ||| y) :: rest) h o) : ax_W G p l e s m args below meth c nL d h0 (pc) tv (ax_L y :: ax_L x :: rest) h o :=
  ax_lift (fun _ _ _ _ _ ls hl k => lv_lor B.1 B.2.1 hd  (k ls hl)) k
theorem ax_lxor (B : ax_B G p s m meth c own cc nL ret) {x y : Int64} (hd : decode cc pc = .ok (.lxor, 1))  (k : ax_W G p l e s m args below meth c nL d h0 (pc + 1) tv (ax_L (x ^^^ y) :: rest) h o) : ax_W G p l e s m args below meth c nL d h0 (pc) tv (ax_L y :: ax_L x :: rest) h o :=
  ax_lift (fun _ _ _ _ _ ls hl k => lv_lxor B.1 B.2.1 hd  (k ls hl)) k
theorem ax_lneg (B : ax_B G p s m meth c own cc nL ret) {x : Int64} (hd : decode cc pc = .ok (.lneg, 1))  (k : ax_W G p l e s m args below meth c nL d h0 (pc + 1) tv (ax_L (-x) :: rest) h o) : ax_W G p l e s m args below meth c nL d h0 (pc) tv (ax_L x :: rest) h o :=
  ax_lift (fun _ _ _ _ _ ls hl k => lv_lneg B.1 B.2.1 hd  (k ls hl)) k
theorem ax_lshl (B : ax_B G p s m meth c own cc nL ret) {x : Int64} {y : Int32} (hd : decode cc pc = .ok (.lshl, 1))  (k : ax_W G p l e s m args below meth c nL d h0 (pc + 1) tv (ax_L (x <<< (y.toInt64 &&& 63)) :: rest) h o) : ax_W G p l e s m args below meth c nL d h0 (pc) tv (ax_I y :: ax_L x :: rest) h o :=
  ax_lift (fun _ _ _ _ _ ls hl k => lv_lshl B.1 B.2.1 hd rfl (k ls hl)) k
theorem ax_lshr (B : ax_B G p s m meth c own cc nL ret) {x : Int64} {y : Int32} (hd : decode cc pc = .ok (.lshr, 1))  (k : ax_W G p l e s m args below meth c nL d h0 (pc + 1) tv (ax_L (x >>> (y.toInt64 &&& 63)) :: rest) h o) : ax_W G p l e s m args below meth c nL d h0 (pc) tv (ax_I y :: ax_L x :: rest) h o :=
  ax_lift (fun _ _ _ _ _ ls hl k => lv_lshr B.1 B.2.1 hd rfl (k ls hl)) k
theorem ax_lushr (B : ax_B G p s m meth c own cc nL ret) {x : Int64} {y : Int32} (hd : decode cc pc = .ok (.lushr, 1))  (k : ax_W G p l e s m args below meth c nL d h0 (pc + 1) tv (ax_L ((x.toUInt64 >>> (y.toInt64.toUInt64 &&& Int64.toUInt64 63)).toInt64) :: rest) h o) : ax_W G p l e s m args below meth c nL d h0 (pc) tv (ax_I y :: ax_L x :: rest) h o :=
  ax_lift (fun _ _ _ _ _ ls hl k => lv_lushr B.1 B.2.1 hd rfl (k ls hl)) k
theorem ax_i2l (B : ax_B G p s m meth c own cc nL ret) {x : Int32} (hd : decode cc pc = .ok (.i2l, 1))  (k : ax_W G p l e s m args below meth c nL d h0 (pc + 1) tv (ax_L x.toInt64 :: rest) h o) : ax_W G p l e s m args below meth c nL d h0 (pc) tv (ax_I x :: rest) h o :=
  ax_lift (fun _ _ _ _ _ ls hl k => lv_i2l B.1 B.2.1 hd rfl (k ls hl)) k
theorem ax_l2i (B : ax_B G p s m meth c own cc nL ret) {x : Int64} (hd : decode cc pc = .ok (.l2i, 1))  (k : ax_W G p l e s m args below meth c nL d h0 (pc + 1) tv (ax_I x.toInt32 :: rest) h o) : ax_W G p l e s m args below meth c nL d h0 (pc) tv (ax_L x :: rest) h o :=
  ax_lift (fun _ _ _ _ _ ls hl k => lv_l2i B.1 B.2.1 hd rfl (k ls hl)) k
theorem ax_i2b (B : ax_B G p s m meth c own cc nL ret) {x : Int32} (hd : decode cc pc = .ok (.i2b, 1))  (k : ax_W G p l e s m args below meth c nL d h0 (pc + 1) tv (ax_I x.toInt8.toInt32 :: rest) h o) : ax_W G p l e s m args below meth c nL d h0 (pc) tv (ax_I x :: rest) h o :=
  ax_lift (fun _ _ _ _ _ ls hl k => lv_i2b B.1 B.2.1 hd rfl (k ls hl)) k
theorem ax_i2c (B : ax_B G p s m meth c own cc nL ret) {x : Int32} (hd : decode cc pc = .ok (.i2c, 1))  (k : ax_W G p l e s m args below meth c nL d h0 (pc + 1) tv (ax_I (x.toUInt32 % 65536).toInt32 :: rest) h o) : ax_W G p l e s m args below meth c nL d h0 (pc) tv (ax_I x :: rest) h o :=
  ax_lift (fun _ _ _ _ _ ls hl k => lv_i2c B.1 B.2.1 hd rfl (k ls hl)) k
theorem ax_i2s (B : ax_B G p s m meth c own cc nL ret) {x : Int32} (hd : decode cc pc = .ok (.i2s, 1))  (k : ax_W G p l e s m args below meth c nL d h0 (pc + 1) tv (ax_I x.toInt16.toInt32 :: rest) h o) : ax_W G p l e s m args below meth c nL d h0 (pc) tv (ax_I x :: rest) h o :=
  ax_lift (fun _ _ _ _ _ ls hl k => lv_i2s B.1 B.2.1 hd rfl (k ls hl)) k
theorem ax_lcmp (B : ax_B G p s m meth c own cc nL ret) {x y : Int64} (hd : decode cc pc = .ok (.lcmp, 1))  (k : ax_W G p l e s m args below meth c nL d h0 (pc + 1) tv (ax_I (lg_cmp x y) :: rest) h o) : ax_W G p l e s m args below meth c nL d h0 (pc) tv (ax_L y :: ax_L x :: rest) h o :=
  ax_lift (fun _ _ _ _ _ ls hl k => W.lcmp B.1 B.2.1 hd  (k ls hl)) k
theorem ax_dup (B : ax_B G p s m meth c own cc nL ret) {a : ax_T} (hd : decode cc pc = .ok (.dup, 1)) (ha : ax_two a = false) (k : ax_W G p l e s m args below meth c nL d h0 (pc + 1) tv (a :: a :: rest) h o) : ax_W G p l e s m args below meth c nL d h0 (pc) tv (a :: rest) h o :=
  ax_lift (fun _ _ _ _ _ ls hl k => lv_dup B.1 B.2.1 hd (ax_one ha) (k ls hl)) k
theorem ax_pop (B : ax_B G p s m meth c own cc nL ret) {a : ax_T} (hd : decode cc pc = .ok (.pop, 1)) (ha : ax_two a = false) (k : ax_W G p l e s m args below meth c nL d h0 (pc + 1) tv (rest) h o) : ax_W G p l e s m args below meth c nL d h0 (pc) tv (a :: rest) h o :=
  ax_lift (fun _ _ _ _ _ ls hl k => lv_pop B.1 B.2.1 hd (ax_one ha) (k ls hl)) k
theorem ax_dup_x1 (B : ax_B G p s m meth c own cc nL ret) {a b : ax_T} (hd : decode cc pc = .ok (.dup_x1, 1)) (ha : ax_two a = false) (hb : ax_two b = false) (k : ax_W G p l e s m args below meth c nL d h0 (pc + 1) tv (a :: b :: a :: rest) h o) : ax_W G p l e s m args below meth c nL d h0 (pc) tv (a :: b :: rest) h o :=
  ax_lift (fun _ _ _ _ _ ls hl k => lv_dup_x1 B.1 B.2.1 hd (ax_one ha) (ax_one hb) (k ls hl)) k
theorem ax_dup_x2 (B : ax_B G p s m meth c own cc nL ret) {a b f : ax_T} (hd : decode cc pc = .ok (.dup_x2, 1)) (ha : ax_two a = false) (hb : ax_two b = false) (hf : ax_two f = false) (k : ax_W G p l e s m args below meth c nL d h0 (pc + 1) tv (a :: b :: f :: a :: rest) h o) : ax_W G p l e s m args below meth c nL d h0 (pc) tv (a :: b :: f :: rest) h o :=
  ax_lift (fun _ _ _ _ _ ls hl k => lv_dup_x2 B.1 B.2.1 hd (ax_one ha) (ax_one hb) (ax_one hf) (k ls hl)) k
theorem ax_dup2_11 (B : ax_B G p s m meth c own cc nL ret) {a b : ax_T} (hd : decode cc pc = .ok (.dup2, 1)) (ha : ax_two a = false) (hb : ax_two b = false) (k : ax_W G p l e s m args below meth c nL d h0 (pc + 1) tv (a :: b :: a :: b :: rest) h o) : ax_W G p l e s m args below meth c nL d h0 (pc) tv (a :: b :: rest) h o :=
  ax_lift (fun _ _ _ _ _ ls hl k => lv_dup2_11 B.1 B.2.1 hd (ax_one ha) (ax_one hb) (k ls hl)) k
theorem ax_dup2_2 (B : ax_B G p s m meth c own cc nL ret) {a : ax_T} (hd : decode cc pc = .ok (.dup2, 1)) (ha : ax_two a = true) (k : ax_W G p l e s m args below meth c nL d h0 (pc + 1) tv (a :: a :: rest) h o) : ax_W G p l e s m args below meth c nL d h0 (pc) tv (a :: rest) h o :=
  ax_lift (fun _ _ _ _ _ ls hl k => lv_dup2_2 B.1 B.2.1 hd (ax_twoc ha) (k ls hl)) k
theorem ax_pop2_2 (B : ax_B G p s m meth c own cc nL ret) {a : ax_T} (hd : decode cc pc = .ok (.pop2, 1)) (ha : ax_two a = true) (k : ax_W G p l e s m args below meth c nL d h0 (pc + 1) tv (rest) h o) : ax_W G p l e s m args below meth c nL d h0 (pc) tv (a :: rest) h o :=
  ax_lift (fun _ _ _ _ _ ls hl k => lv_pop2_2 B.1 B.2.1 hd (ax_twoc ha) (k ls hl)) k
theorem ax_idiv (B : ax_B G p s m meth c own cc nL ret) {x y : Int32} (hd : decode cc pc = .ok (.idiv, 1)) (k : ax_W G p l e s m args below meth c nL d h0 (pc + 1) tv (ax_I (x / y) :: rest) h o) : ax_W G p l e s m args below meth c nL d h0 (pc) tv (ax_I y :: ax_I x :: rest) h (ax_nz y o) := by
  intro r h' e1 H locs cells slots ls hl hR a b cL
  by_cases hy : y = 0
  · rw [ax_nz, if_pos hy] at e1; cases e1
  · rw [ax_nz, if_neg hy] at e1
    exact lv_idiv B.1 B.2.1 hd hy (k r h' e1 H locs cells slots ls hl hR a b cL)
theorem ax_irem (B : ax_B G p s m meth c own cc nL ret) {x y : Int32} (hd : decode cc pc = .ok (.irem, 1)) (k : ax_W G p l e s m args below meth c nL d h0 (pc + 1) tv (ax_I (x - x / y * y) :: rest) h o) : ax_W G p l e s m args below meth c nL d h0 (pc) tv (ax_I y :: ax_I x :: rest) h (ax_nz y o) := by
  intro r h' e1 H locs cells slots ls hl hR a b cL
  by_cases hy : y = 0
  · rw [ax_nz, if_pos hy] at e1; cases e1
  · rw [ax_nz, if_neg hy] at e1
    exact lv_irem B.1 B.2.1 hd hy (k r h' e1 H locs cells slots ls hl hR a b cL)
theorem ax_ldiv (B : ax_B G p s m meth c own cc nL ret) {x y : Int64} (hd : decode cc pc = .ok (.ldiv, 1)) (k : ax_W G p l e s m args below meth c nL d h0 (pc + 1) tv (ax_L (x / y) :: rest) h o) : ax_W G p l e s m args below meth c nL d h0 (pc) tv (ax_L y :: ax_L x :: rest) h (ax_nzl y o) := by
  intro r h' e1 H locs cells slots ls hl hR a b cL
  by_cases hy : y = 0
  · rw [ax_nzl, if_pos hy] at e1; cases e1
  · rw [ax_nzl, if_neg hy] at e1
    exact lv_ldiv B.1 B.2.1 hd hy (k r h' e1 H locs cells slots ls hl hR a b cL)
theorem ax_lrem (B : ax_B G p s m meth c own cc nL ret) {x y : Int64} (hd : decode cc pc = .ok (.lrem, 1)) (k : ax_W G p l e s m args below meth c nL d h0 (pc + 1) tv (ax_L (x - x / y * y) :: rest) h o) : ax_W G p l e s m args below meth c nL d h0 (pc) tv (ax_L y :: ax_L x :: rest) h (ax_nzl y o) := by
  intro r h' e1 H locs cells slots ls hl hR a b cL
  by_cases hy : y = 0
  · rw [ax_nzl, if_pos hy] at e1; cases e1
  · rw [ax_nzl, if_neg hy] at e1
    exact lv_lrem B.1 B.2.1 hd hy (k r h' e1 H locs cells slots ls hl hR a b cL)
theorem ax_if_eq (B : ax_B G p s m meth c own cc nL ret) {x : Int32} {off : Int} {o1 o2 : ax_O} (tgt : Nat) (hd : decode cc pc = .ok (.ifCond .eq off, 3)) (ht : (pc : Int) + off = (tgt : Int)) (k1 : ax_W G p l e s m args below meth c nL d h0 (tgt) tv (rest) h o1) (k2 : ax_W G p l e s m args below meth c nL d h0 (pc + 3) tv (rest) h o2) : ax_W G p l e s m args below meth c nL d h0 (pc) tv (ax_I x :: rest) h (if x = 0 then o1 else o2) :=
  fun r h' e1 H locs cells slots ls hl hR a b cL => lv_if_eq B.1 B.2.1 hd ht (fun q => k1 r h' (by rw [if_pos q] at e1; exact e1) H locs cells slots ls hl hR a b cL) (fun q => k2 r h' (by rw [if_neg q] at e1; exact e1) H locs cells slots ls hl hR a b cL)
theorem ax_if_ne (B : ax_B G p s m meth c own cc nL ret) {x : Int32} {off : Int} {o1 o2 : ax_O} (tgt : Nat) (hd : decode cc pc = .ok (.ifCond .ne off, 3)) (ht : (pc : Int) + off = (tgt : Int)) (k1 : ax_W G p l e s m args below meth c nL d h0 (tgt) tv (rest) h o1) (k2 : ax_W G p l e s m args below meth c nL d h0 (pc + 3) tv (rest) h o2) : ax_W G p l e s m args below meth c nL d h0 (pc) tv (ax_I x :: rest) h (if x = 0 then o2 else o1) :=
  fun r h' e1 H locs cells slots ls hl hR a b cL => lv_if_ne B.1 B.2.1 hd ht (fun q => k1 r h' (by rw [if_neg q] at e1; exact e1) H locs cells slots ls hl hR a b cL) (fun q => k2 r h' (by rw [if_pos q] at e1; exact e1) H locs cells slots ls hl hR a b cL)
theorem ax_if_lt (B : ax_B G p s m meth c own cc nL ret) {x : Int32} {off : Int} {o1 o2 : ax_O} (tgt : Nat) (hd : decode cc pc = .ok (.ifCond .lt off, 3)) (ht : (pc : Int) + off = (tgt : Int)) (k1 : ax_W G p l e s m args below meth c nL d h0 (tgt) tv (rest) h o1) (k2 : ax_W G p l e s m args below meth c nL d h0 (pc + 3) tv (rest) h o2) : ax_W G p l e s m args below meth c nL d h0 (pc) tv (ax_I x :: rest) h (if x < 0 then o1 else o2) :=
  fun r h' e1 H locs cells slots ls hl hR a b cL => lv_if_lt B.1 B.2.1 hd ht (fun q => k1 r h' (by rw [if_pos q] at e1; exact e1) H locs cells slots ls hl hR a b cL) (fun q => k2 r h' (by rw [if_neg q] at e1; exact e1) H locs cells slots ls hl hR a b cL)
theorem ax_if_ge (B : ax_B G p s m meth c own cc nL ret) {x : Int32} {off : Int} {o1 o2 : ax_O} (tgt : Nat) (hd : decode cc pc = .ok (.ifCond .ge off, 3)) (ht : (pc : Int) + off = (tgt : Int)) (k1 : ax_W G p l e s m args below meth c nL d h0 (tgt) tv (rest) h o1) (k2 : ax_W G p l e s m args below meth c nL d h0 (pc + 3) tv (rest) h o2) : ax_W G p l e s m args below meth c nL d h0 (pc) tv (ax_I x :: rest) h (if 0 ≤ x then o1 else o2) :=
  fun r h' e1 H locs cells slots ls hl hR a b cL => lv_if_ge B.1 B.2.1 hd ht (fun q => k1 r h' (by rw [if_pos q] at e1; exact e1) H locs cells slots ls hl hR a b cL) (fun q => k2 r h' (by rw [if_neg q] at e1; exact e1) H locs cells slots ls hl hR a b cL)
theorem ax_if_gt (B : ax_B G p s m meth c own cc nL ret) {x : Int32} {off : Int} {o1 o2 : ax_O} (tgt : Nat) (hd : decode cc pc = .ok (.ifCond .gt off, 3)) (ht : (pc : Int) + off = (tgt : Int)) (k1 : ax_W G p l e s m args below meth c nL d h0 (tgt) tv (rest) h o1) (k2 : ax_W G p l e s m args below meth c nL d h0 (pc + 3) tv (rest) h o2) : ax_W G p l e s m args below meth c nL d h0 (pc) tv (ax_I x :: rest) h (if 0 < x then o1 else o2) :=
  fun r h' e1 H locs cells slots ls hl hR a b cL => lv_if_gt B.1 B.2.1 hd ht (fun q => k1 r h' (by rw [if_pos q] at e1; exact e1) H locs cells slots ls hl hR a b cL) (fun q => k2 r h' (by rw [if_neg q] at e1; exact e1) H locs cells slots ls hl hR a b cL)
theorem ax_if_le (B : ax_B G p s m meth c own cc nL ret) {x : Int32} {off : Int} {o1 o2 : ax_O} (tgt : Nat) (hd : decode cc pc = .ok (.ifCond .le off, 3)) (ht : (pc : Int) + off = (tgt : Int)) (k1 : ax_W G p l e s m args below meth c nL d h0 (tgt) tv (rest) h o1) (k2 : ax_W G p l e s m args below meth c nL d h0 (pc + 3) tv (rest) h o2) : ax_W G p l e s m args below meth c nL d h0 (pc) tv (ax_I x :: rest) h (if x ≤ 0 then o1 else o2) :=
  fun r h' e1 H locs cells slots ls hl hR a b cL => lv_if_le B.1 B.2.1 hd ht (fun q => k1 r h' (by rw [if_pos q] at e1; exact e1) H locs cells slots ls hl hR a b cL) (fun q => k2 r h' (by rw [if_neg q] at e1; exact e1) H locs cells slots ls hl hR a b cL)
theorem ax_icmp_eq (B : ax_B G p s m meth c own cc nL ret) {x y : Int32} {off : Int} {o1 o2 : ax_O} (tgt : Nat) (hd : decode cc pc = .ok (.if_icmp .eq off, 3)) (ht : (pc : Int) + off = (tgt : Int)) (k1 : ax_W G p l e s m args below meth c nL d h0 (tgt) tv (rest) h o1) (k2 : ax_W G p l e s m args below meth c nL d h0 (pc + 3) tv (rest) h o2) : ax_W G p l e s m args below meth c nL d h0 (pc) tv (ax_I y :: ax_I x :: rest) h (if x = y then o1 else o2) :=
  fun r h' e1 H locs cells slots ls hl hR a b cL => lv_icmp_eq B.1 B.2.1 hd ht (fun q => k1 r h' (by rw [if_pos q] at e1; exact e1) H locs cells slots ls hl hR a b cL) (fun q => k2 r h' (by rw [if_neg q] at e1; exact e1) H locs cells slots ls hl hR a b cL)
theorem ax_icmp_ne (B : ax_B G p s m meth c own cc nL ret) {x y : Int32} {off : Int} {o1 o2 : ax_O} (tgt : Nat) (hd : decode cc pc = .ok (.if_icmp .ne off, 3)) (ht : (pc : Int) + off = (tgt : Int)) (k1 : ax_W G p l e s m args below meth c nL d h0 (tgt) tv (rest) h o1) (k2 : ax_W G p l e s m args below meth c nL d h0 (pc + 3) tv (rest) h o2) : ax_W G p l e s m args below meth c nL d h0 (pc) tv (ax_I y :: ax_I x :: rest) h (if x = y then o2 else o1) :=
  fun r h' e1 H locs cells slots ls hl hR a b cL => lv_icmp_ne B.1 B.2.1 hd ht (fun q => k1 r h' (by rw [if_neg q] at e1; exact e1) H locs cells slots ls hl hR a b cL) (fun q => k2 r h' (by rw [if_pos q] at e1; exact e1) H locs cells slots ls hl hR a b cL)
theorem ax_icmp_lt (B : ax_B G p s m meth c own cc nL ret) {x y : Int32} {off : Int} {o1 o2 : ax_O} (tgt : Nat) (hd : decode cc pc = .ok (.if_icmp .lt off, 3)) (ht : (pc : Int) + off = (tgt : Int)) (k1 : ax_W G p l e s m args below meth c nL d h0 (tgt) tv (rest) h o1) (k2 : ax_W G p l e s m args below meth c nL d h0 (pc + 3) tv (rest) h o2) : ax_W G p l e s m args below meth c nL d h0 (pc) tv (ax_I y :: ax_I x :: rest) h (if x < y then o1 else o2) :=
  fun r h' e1 H locs cells slots ls hl hR a b cL => lv_icmp_lt B.1 B.2.1 hd ht (fun q => k1 r h' (by rw [if_pos q] at e1; exact e1) H locs cells slots ls hl hR a b cL) (fun q => k2 r h' (by rw [if_neg q] at e1; exact e1) H locs cells slots ls hl hR a b cL)
theorem ax_icmp_ge (B : ax_B G p s m meth c own cc nL ret) {x y : Int32} {off : Int} {o1 o2 : ax_O} (tgt : Nat) (hd : decode cc pc = .ok (.if_icmp .ge off, 3)) (ht : (pc : Int) + off = (tgt : Int)) (k1 : ax_W G p l e s m args below meth c nL d h0 (tgt) tv (rest) h o1) (k2 : ax_W G p l e s m args below meth c nL d h0 (pc + 3) tv (rest) h o2) : ax_W G p l e s m args below meth c nL d h0 (pc) tv (ax_I y :: ax_I x :: rest) h (if y ≤ x then o1 else o2) :=
  fun r h' e1 H locs cells slots ls hl hR a b cL => lv_icmp_ge B.1 B.2.1 hd ht (fun q => k1 r h' (by rw [if_pos q] at e1; exact e1) H locs cells slots ls hl hR a b cL) (fun q => k2 r h' (by rw [if_neg q] at e1; exact e1) H locs cells slots ls hl hR a b cL)
theorem ax_icmp_gt (B : ax_B G p s m meth c own cc nL ret) {x y : Int32} {off : Int} {o1 o2 : ax_O} (tgt : Nat) (hd : decode cc pc = .ok (.if_icmp .gt off, 3)) (ht : (pc : Int) + off = (tgt : Int)) (k1 : ax_W G p l e s m args below meth c nL d h0 (tgt) tv (rest) h o1) (k2 : ax_W G p l e s m args below meth c nL d h0 (pc + 3) tv (rest) h o2) : ax_W G p l e s m args below meth c nL d h0 (pc) tv (ax_I y :: ax_I x :: rest) h (if y < x then o1 else o2) :=
  fun r h' e1 H locs cells slots ls hl hR a b cL => lv_icmp_gt B.1 B.2.1 hd ht (fun q => k1 r h' (by rw [if_pos q] at e1; exact e1) H locs cells slots ls hl hR a b cL) (fun q => k2 r h' (by rw [if_neg q] at e1; exact e1) H locs cells slots ls hl hR a b cL)
theorem ax_icmp_le (B : ax_B G p s m meth c own cc nL ret) {x y : Int32} {off : Int} {o1 o2 : ax_O} (tgt : Nat) (hd : decode cc pc = .ok (.if_icmp .le off, 3)) (ht : (pc : Int) + off = (tgt : Int)) (k1 : ax_W G p l e s m args below meth c nL d h0 (tgt) tv (rest) h o1) (k2 : ax_W G p l e s m args below meth c nL d h0 (pc + 3) tv (rest) h o2) : ax_W G p l e s m args below meth c nL d h0 (pc) tv (ax_I y :: ax_I x :: rest) h (if x ≤ y then o1 else o2) :=
  fun r h' e1 H locs cells slots ls hl hR a b cL => lv_icmp_le B.1 B.2.1 hd ht (fun q => k1 r h' (by rw [if_pos q] at e1; exact e1) H locs cells slots ls hl hR a b cL) (fun q => k2 r h' (by rw [if_neg q] at e1; exact e1) H locs cells slots ls hl hR a b cL)
theorem ax_goto (B : ax_B G p s m meth c own cc nL ret) {off : Int} (tgt : Nat) (hd : decode cc pc = .ok (.goto off, 3)) (ht : (pc : Int) + off = (tgt : Int)) (k : ax_W G p l e s m args below meth c nL d h0 (tgt) tv (rest) h o) : ax_W G p l e s m args below meth c nL d h0 (pc) tv (rest) h o :=
  ax_lift (fun _ _ _ _ _ ls hl k => lv_goto B.1 B.2.1 hd ht (k ls hl)) k
theorem ax_ifnull (B : ax_B G p s m meth c own cc nL ret) {x : Option Nat} {off : Int} {o1 o2 : ax_O} (tgt : Nat) (hd : decode cc pc = .ok (.ifnull off, 3)) (ht : (pc : Int) + off = (tgt : Int)) (k1 : ax_W G p l e s m args below meth c nL d h0 (tgt) tv (rest) h o1) (k2 : ax_W G p l e s m args below meth c nL d h0 (pc + 3) tv (rest) h o2) : ax_W G p l e s m args below meth c nL d h0 (pc) tv (ax_A x :: rest) h (if x = none then o1 else o2) := by
  cases x with
  | none => exact ax_eq (if_pos rfl) (ax_lift (fun _ _ _ _ _ ls hl k => lv_ifnullN B.1 B.2.1 hd ht (k ls hl)) k1)
  | some a => exact ax_eq (if_neg (fun q => by cases q)) (ax_lift (fun _ _ _ _ _ ls hl k => lv_ifnull B.1 B.2.1 hd (k ls hl)) k2)
theorem ax_ifnonnull (B : ax_B G p s m meth c own cc nL ret) {x : Option Nat} {off : Int} {o1 o2 : ax_O} (tgt : Nat) (hd : decode cc pc = .ok (.ifnonnull off, 3)) (ht : (pc : Int) + off = (tgt : Int)) (k1 : ax_W G p l e s m args below meth c nL d h0 (tgt) tv (rest) h o1) (k2 : ax_W G p l e s m args below meth c nL d h0 (pc + 3) tv (rest) h o2) : ax_W G p l e s m args below meth c nL d h0 (pc) tv (ax_A x :: rest) h (if x = none then o2 else o1) := by
  cases x with
  | none => exact ax_eq (if_pos rfl) (ax_lift (fun _ _ _ _ _ ls hl k => lv_ifnonnullN B.1 B.2.1 hd (k ls hl)) k2)
  | some a => exact ax_eq (if_neg (fun q => by cases q)) (ax_lift (fun _ _ _ _ _ ls hl k => lv_ifnonnull B.1 B.2.1 hd ht (k ls hl)) k1)
/-- a switch: pairs (key, jump), one by one -/
def ax_SW (Wt : Int → ax_O → Prop) (dflt : Int) (x : Int32) : List (Int × Int) → ax_O → Prop
  | [], o => Wt dflt o
  | (k, off) :: r, o => ∃ o1 o2, o = (if x.toInt = k then o1 else o2) ∧ Wt off o1 ∧ ax_SW Wt dflt x r o2
theorem ax_SW_go {Wt : Int → ax_O → Prop} {dflt : Int} {x : Int32} : ∀ (ps : List (Int × Int)) (o : ax_O), ax_SW Wt dflt x ps o → Wt (Op.lookupswitch.offset ps dflt x.toInt) o
  | [], _, h => h
  | (k, off) :: r, o, h => by
    obtain ⟨o1, o2, rfl, h1, h2⟩ := h
    rw [Op.lookupswitch.offset_cons]
    by_cases hk : x.toInt = k
    · rw [if_pos hk, if_pos hk.symm]; exact h1
    · rw [if_neg hk, if_neg (fun q => hk q.symm)]; exact ax_SW_go r o2 h2
theorem ax_lookup (B : ax_B G p s m meth c own cc nL ret) {x : Int32} {dflt : Int} {ps : Array (Int × Int)} {len : Nat} (hd : decode cc pc = .ok (.lookupswitch dflt ps, len)) (hp : (ps.toList.zip (ps.toList.drop 1)).all (fun (a, next) => a.1 < next.1) = true)
    (k : ax_SW (fun off o => ∃ tgt : Nat, (pc : Int) + off = (tgt : Int) ∧ ax_W G p l e s m args below meth c nL d h0 (tgt) tv (rest) h o) dflt x ps.toList o) : ax_W G p l e s m args below meth c nL d h0 (pc) tv (ax_I x :: rest) h o := by
  obtain ⟨tgt, ht, k⟩ := ax_SW_go _ _ k
  exact ax_lift (fun _ _ _ _ _ ls hl k => lv_lookup B.1 B.2.1 hd hp rfl ht (k ls hl)) k
/-- a table's switch: the jumps from lo on, one by one -/
def ax_TW (Wt : Int → ax_O → Prop) (dflt : Int) (x : Int32) : Int → List Int → ax_O → Prop
  | _, [], o => Wt dflt o
  | lo, off :: r, o => ∃ o1 o2, o = (if x.toInt = lo then o1 else o2) ∧ Wt off o1 ∧ ax_TW Wt dflt x (lo + 1) r o2
theorem ax_TW_go {Wt : Int → ax_O → Prop} {dflt : Int} {x : Int32} : ∀ (offs : List Int) (lo : Int) (o : ax_O), ax_TW Wt dflt x lo offs o → Wt (if x.toInt < lo then dflt else (offs[(x.toInt - lo).toNat]?).getD dflt) o
  | [], lo, o, h => by simpa [ax_TW] using h
  | off :: r, lo, o, h => by
    obtain ⟨o1, o2, rfl, h1, h2⟩ := h
    by_cases hk : x.toInt = lo
    · rw [if_pos hk, if_neg (by omega), hk]; simpa using h1
    · rw [if_neg hk]
      have h3 := ax_TW_go r (lo + 1) o2 h2
      by_cases hlt : x.toInt < lo
      · rw [if_pos hlt]; rw [if_pos (by omega)] at h3; exact h3
      · rw [if_neg hlt]; rw [if_neg (by omega)] at h3
        have e1 : (x.toInt - lo).toNat = (x.toInt - (lo + 1)).toNat + 1 := by omega
        rw [e1, List.getElem?_cons_succ]; exact h3
theorem ax_table (B : ax_B G p s m meth c own cc nL ret) {x : Int32} {dflt lo hi : Int} {offs : Array Int} {len : Nat} (hd : decode cc pc = .ok (.tableswitch dflt lo hi offs, len)) (hn : (offs.size : Int) = hi - lo + 1)
    (k : ax_TW (fun off o => ∃ tgt : Nat, (pc : Int) + off = (tgt : Int) ∧ ax_W G p l e s m args below meth c nL d h0 (tgt) tv (rest) h o) dflt x lo offs.toList o) : ax_W G p l e s m args below meth c nL d h0 (pc) tv (ax_I x :: rest) h o := by
  obtain ⟨tgt, ht, k⟩ := ax_TW_go _ _ _ k
  by_cases h1 : x.toInt < lo
  · rw [if_pos h1] at ht
    exact ax_lift (fun _ _ _ _ _ ls hl k => lv_tableOut B.1 B.2.1 hd (Or.inl h1) ht (k ls hl)) k
  · rw [if_neg h1] at ht
    by_cases h2 : hi < x.toInt
    · have e1 : offs.toList[(x.toInt - lo).toNat]? = none := by
        rw [List.getElem?_eq_none_iff, Array.length_toList]; omega
      rw [e1] at ht
      exact ax_lift (fun _ _ _ _ _ ls hl k => lv_tableOut B.1 B.2.1 hd (Or.inr h2) ht (k ls hl)) k
    · have h3 : (x.toInt - lo).toNat < offs.size := by omega
      have e1 : offs[(x.toInt - lo).toNat]? = some offs[(x.toInt - lo).toNat] := Array.getElem?_eq_getElem h3
      rw [Array.getElem?_toList, e1] at ht
      exact ax_lift (fun _ _ _ _ _ ls hl k => lv_tableIn B.1 B.2.1 hd h1 h2 e1 ht (k ls hl)) k
end AX1
