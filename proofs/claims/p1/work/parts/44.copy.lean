def ax_allI (es : List ax_T) : Bool := es.all fun t => match t with
  | .inl _ => true
  | _ => false
theorem ax_allI_at {G : ax_G} {es : List ax_T} (h : ax_allI es = true) {i : Nat} {v : Value} (hv : (es.map (ax_v G)).toArray[i]? = some v) : ∃ n, v = .int n := by
  rw [List.getElem?_toArray, List.getElem?_map] at hv
  obtain ⟨t, ht, rfl⟩ := Option.map_eq_some_iff.mp hv
  have := List.all_eq_true.mp h t (List.mem_of_getElem? ht)
  rcases t with n | n | n
  · exact ⟨n, rfl⟩
  · cases this
  · cases this
def ax_cln (h : ax_Hp) (x : Option Nat) : Option (Nat × ax_Hp) := (ax_arr h x 1).bind fun es => if ax_allI es = true then ax_add h es.length (some (.inr (1, es))) else none
def ax_acp (h : ax_Hp) (x y : Option Nat) (n : Int32) : Option ax_Hp := (ax_arr h x 1).bind fun es => (ax_arr h y 1).bind fun fs =>
  if ax_allI es = true ∧ ¬ n < 0 ∧ n.toNatClampNeg ≤ es.length ∧ n.toNatClampNeg ≤ fs.length then some (ax_put h y (.inr (1, es.take n.toNatClampNeg ++ fs.drop n.toNatClampNeg))) else none
theorem ax_store : ∀ (vs : List Value) (c : Cell) (i : Nat), i + vs.length ≤ c.slots.size → (c.storePairs 0 (vs.zipIdx i)).slots.toList = c.slots.toList.take i ++ vs ++ c.slots.toList.drop (i + vs.length)
  | [], c, i, _ => by
    show c.slots.toList = _
    rw [List.append_nil, List.length_nil, Nat.add_zero, List.take_append_drop]
  | v :: vs, c, i, h => by
    have hl : i + 1 + vs.length ≤ c.slots.size := by
      simp only [List.length_cons] at h
      omega
    rw [List.zipIdx_cons]
    show ((c.setSlot (0 + i) v).storePairs 0 (vs.zipIdx (i + 1))).slots.toList = _
    have e : (c.setSlot (0 + i) v).slots.toList = c.slots.toList.set i v := by
      show (c.slots.setIfInBounds (0 + i) v).toList = _
      rw [Nat.zero_add, Array.toList_setIfInBounds]
    rw [ax_store vs (c.setSlot (0 + i) v) (i + 1) (by show _ ≤ (c.slots.setIfInBounds (0 + i) v).size; rw [Array.size_setIfInBounds]; exact hl), e]
    have hi : i < c.slots.toList.length := by rw [Array.length_toList]; omega
    have e1 : (c.slots.toList.set i v).take (i + 1) = c.slots.toList.take i ++ [v] := by
      rw [List.take_succ]
      rw [List.getElem?_set_self (by exact hi)]
      rw [List.take_set_of_le (Nat.le_refl i)]
      rfl
    have e2 : (c.slots.toList.set i v).drop (i + 1 + vs.length) = c.slots.toList.drop (i + (v :: vs).length) := by
      rw [List.drop_set_of_lt (by omega)]
      congr 1
      simp only [List.length_cons]
      omega
    rw [e1, e2]
    simp
theorem ax_nn (z : Int32) (hz : ¬ z < 0) : z.toInt = (z.toNatClampNeg : Int) := by
  have hz0 : (0 : Int) ≤ z.toInt := by
    have := Int32.not_lt.mp hz
    simpa using Int32.le_iff_toInt_le.mp this
  show z.toInt = ((z.toInt.toNat : Nat) : Int)
  omega
theorem ax_stat {cell : Cell} (h : ∀ k, cell.vm ≠ .statics k) : cell.vm.isStatics = false := by
  cases hv : cell.vm <;> first | rfl | exact absurd hv (h _)
section AXC
variable {G : ax_G} {p : Program} {l : Launch} {e : Env} {s : State} {m : MethodId} {args : Array Value} {below : List Frame} {meth : Method} {c : Code} {own : String} {cc : ByteArray} {nL : Nat} {ret : Option FieldType} {d : Nat} {h0 h : ax_Hp} {pc : Nat} {tv : List (Nat × ax_T)} {rest : List ax_T} {o : ax_O}
variable {idx : Nat} {x y : Option Nat}
theorem ax_nmI (hK : ax_K G s) : s.vm.findClass "[I" = some (G.2.1 1) := va_nm_int ((hK.2.2.1 1 (by decide)).2 (by decide))
theorem ax_clone (B : ax_B G p s m meth c own cc nL ret) (w1 : Cond.methodLink own idx ⟨"[I", "clone", "()Ljava/lang/Object;"⟩ ∈ lw_tbl) (w2 : Cond.sameMethod "[I" "java/lang/Object" "clone" "()Ljava/lang/Object;" ∈ lw_tbl) (w3 : Cond.native ⟨"java/lang/Object", "clone", "()Ljava/lang/Object;"⟩ ∈ lw_tbl) (w4 : Cond.instanceMethod ⟨"java/lang/Object", "clone", "()Ljava/lang/Object;"⟩ ∈ lw_tbl) (w5 : Cond.selects "[I" ⟨"[I", "clone", "()Ljava/lang/Object;"⟩ ⟨"java/lang/Object", "clone", "()Ljava/lang/Object;"⟩ ∈ lw_tbl) (w6 : Cond.castable "[I" "java/lang/Cloneable" ∈ lw_tbl) (hst : ax_wt rest ≤ 8) (hd1 : 1 ≤ d) (hd : decode cc pc = .ok (.invokevirtual idx, 3)) {q : Nat → ax_Hp → ax_O}
    (kk : ∀ a h2, (∃ es, h2.2.2 a = some (.inr (1, es))) → ax_W G p l e s m args below meth c nL d h0 (pc + 3) tv (ax_A (some a) :: rest) h2 (q a h2)) : ax_W G p l e s m args below meth c nL d h0 pc tv (ax_A x :: rest) h (ax_nw (ax_cln h x) q) := by
  intro r h' e1 H locs cells slots ls hl hR a b cL
  obtain ⟨y, hv0, e2⟩ := Option.bind_eq_some_iff.mp e1
  obtain ⟨es, hes, hv⟩ := Option.bind_eq_some_iff.mp hv0
  obtain ⟨ad, rfl, hm⟩ := ax_arr_spec hes
  by_cases hI : ax_allI es = true
  · rw [if_pos hI] at hv
    obtain ⟨⟨hc1, hc2⟩, rfl⟩ := ax_add_spec hv
    obtain ⟨hge, cell, hc, hcls, hvm1, hvm2, hsl⟩ := hR.2.2.2.2.2 ad _ hm
    have hcls : cell.cls = G.2.1 1 := hcls
    have hsl : cell.slots = (es.map (ax_v G)).toArray := hsl
    have hK := B.2.2.2.2.2.2
    have hsz := ax_ad_new hR
    have hA := (hK.2.2.1 1 (by decide)).1
    have hnm : s.vm.findClass "[I" = some cell.cls := by rw [hcls]; exact ax_nmI hK
    obtain ⟨c0, t0, f1, f2, f3⟩ := Cond.castable_spec (ax_word (args := args) hK w6 rfl rfl)
    have hcc : cell.cls = c0 := Option.some.inj (hnm.symm.trans f1)
    have hwt := ax_wt_eq G rest
    have hsz2 : cell.slots.size = es.length := by rw [hsl]; simp
    intro T hT X
    obtain ⟨-, kA, hkA, comp, hkind⟩ := State.isArrayOf_alike X.warmed.alike (hA 0 (fun _ => .null))
    obtain ⟨-, kS, hkS, compS, hkindS⟩ := hA 0 (fun _ => .null)
    have hkA : T.vm.classes[G.2.1 1]? = some kA := hkA
    have hkind : kA.kind = .array comp .int := hkind
    have hcT : T.heap[ax_ad G ad]? = some cell := by rw [hT]; exact hc
    obtain ⟨vm', X', st⟩ := X.cloneArray B.1 B.2.2.2.2.2.1 (ax_word hK w1 rfl rfl) (ax_word hK w2 rfl rfl) (ax_word hK w3 rfl rfl) (ax_word hK w4 rfl rfl) (ax_word hK w5 rfl rfl) (a := ax_ad G ad) (cell := cell) hcT hvm2 hvm1 hnm f2 (by rw [hcc]; exact f3)
      (fun i v hv => by
        rw [hsl] at hv
        obtain ⟨n, rfl⟩ := ax_allI_at hI hv
        rw [hcls]
        simp [State.fitsSlot, State.slotType?, hkA, hkind, fits])
      (g := F0 m pc ls (.ref (ax_ad G ad) :: rest.map (ax_v G))) rfl (by rw [B.2.2.1]; exact hl.1) rfl (by rw [B.2.1]; exact hd) (by show 1 ≤ d; exact hd1) (by show 2 * 0 + _ + 14 ≤ 60 * d; omega) (by show cells + 1 ≤ ax_CM - h0.1; omega) (by rw [hsz2]; show slots + es.length ≤ ax_SM - h0.2.1; omega) (hloader := by rw [hcls]; exact Vm.clonesLoader_of_array hkS hkindS)
    have hR2 := hR.push (H1 := H.push { cls := cell.cls, slots := cell.slots }) (n := es.length) (o := some (.inr (1, es))) hc1 hc2 (fun ⟨es, q⟩ => by cases q) (fun z hz => by
      cases hz
      exact ⟨({ cls := cell.cls, slots := cell.slots } : Cell), by rw [hsz]; exact Array.getElem?_push_size, hcls, (fun q => by cases q), (fun k q => by cases q), hsl⟩) (by simp) (fun q hq => by rw [Array.getElem?_push, if_neg (Nat.ne_of_lt hq)])
    have K := kk (h.1 + 1) _ ⟨es, if_pos rfl⟩ r h' e2 _ locs (cells + 1) (slots + es.length) ls hl hR2 (by show cells + 1 + h0.1 = h.1 + 1; omega) (by show slots + es.length + h0.2.1 = h.2.1 + es.length; omega) cL
    rw [hsz2] at X'
    obtain ⟨t, a1, b1⟩ := K ((T.setVm vm').pushCell { cls := cell.cls, slots := cell.slots }) (by rw [← hT]; rfl) X'
    refine ⟨t, st t ?_, b1⟩
    rw [hT, ← hsz]
    exact a1
  · rw [if_neg hI] at hv
    cases hv
theorem ax_castI (B : ax_B G p s m meth c own cc nL ret) (w1 : Cond.classLink own idx "[I" ∈ lw_tbl) {ad : Nat} (ha : ∃ es, h.2.2 ad = some (.inr (1, es))) (hd : decode cc pc = .ok (.checkcast idx, 3))
    (k : ax_W G p l e s m args below meth c nL d h0 (pc + 3) tv (ax_A (some ad) :: rest) h o) : ax_W G p l e s m args below meth c nL d h0 pc tv (ax_A (some ad) :: rest) h o := by
  intro r h' e1 H locs cells slots ls hl hR a b cL
  obtain ⟨es, hm⟩ := ha
  obtain ⟨hge, cell, hc, hcls, hvm1, hvm2, hsl⟩ := hR.2.2.2.2.2 ad _ hm
  have hcls : cell.cls = G.2.1 1 := hcls
  have hK := B.2.2.2.2.2.2
  intro T hT X
  obtain ⟨vm', X', st⟩ := X.checkcastYes B.1 B.2.2.2.2.2.1 (ax_word hK w1 rfl rfl) (by rw [hT]; exact hc) (ax_stat hvm2) (ax_nmI hK) (by rw [hcls]; exact va_asg _ _) (g := F0 m pc ls (.ref (ax_ad G ad) :: rest.map (ax_v G))) rfl rfl (by rw [B.2.1]; exact hd)
  obtain ⟨t, a1, b1⟩ := k r h' e1 H locs cells slots ls hl hR a b cL (T.setVm vm') hT X'
  exact ⟨t, st t a1, b1⟩
theorem ax_mmin (B : ax_B G p s m meth c own cc nL ret) (w1 : Cond.methodLink own idx Lib.Math.min.name ∈ lw_tbl) (w2 : Cond.static Lib.Math.min.name ∈ lw_tbl) (w3 : Cond.initialized "java/lang/Math" ∈ lw_tbl) (w4 : Cond.code Lib.Math.min.name Lib.Math.min.code 2 (some .int) ∈ lw_tbl) (hst : ax_wt rest ≤ 8) (hd1 : 1 ≤ d) {x y : Int32} (hd : decode cc pc = .ok (.invokestatic idx, 3))
    (k : ax_W G p l e s m args below meth c nL d h0 (pc + 3) tv (ax_I (if y < x then y else x) :: rest) h o) : ax_W G p l e s m args below meth c nL d h0 pc tv (ax_I y :: ax_I x :: rest) h o := by
  intro r h' e1 H locs cells slots ls hl hR a b cL
  have hK := B.2.2.2.2.2.2
  have hwt := ax_wt_eq G rest
  have g1 := hR.2.1
  have g2 := hR.2.2.1
  exact va_mmin B.1 B.2.1 (B.2.2.1.trans hl.1.symm) B.2.2.2.2.2.1 (ax_word hK w1 rfl rfl) (ax_word hK w2 rfl rfl) (ax_word hK w3 rfl rfl) (ax_word hK w4 rfl rfl) (by show 1 ≤ d; exact hd1) (by show _ + 13 ≤ 60 * d; omega) (by show cells ≤ ax_CM - h0.1; omega) (by show slots ≤ ax_SM - h0.2.1; omega) hd (k r h' e1 H locs cells slots ls hl hR a b cL)
theorem ax_acopy (B : ax_B G p s m meth c own cc nL ret) (w1 : Cond.methodLink own idx arraycopyName ∈ lw_tbl) (w2 : Cond.native arraycopyName ∈ lw_tbl) (w3 : Cond.static arraycopyName ∈ lw_tbl) (w4 : Cond.initialized "java/lang/System" ∈ lw_tbl) (hst : ax_wt rest ≤ 8) (hd1 : 1 ≤ d) {n : Int32} (hd : decode cc pc = .ok (.invokestatic idx, 3)) {q : ax_Hp → ax_O}
    (kk : ∀ h2, ax_W G p l e s m args below meth c nL d h0 (pc + 3) tv rest h2 (q h2)) : ax_W G p l e s m args below meth c nL d h0 pc tv (ax_I n :: ax_I 0 :: ax_A y :: ax_I 0 :: ax_A x :: rest) h ((ax_acp h x y n).bind q) := by
  intro r h' e1 H locs cells slots ls hl hR a b cL
  obtain ⟨h2, hv0, e2⟩ := Option.bind_eq_some_iff.mp e1
  obtain ⟨es, hes, hv1⟩ := Option.bind_eq_some_iff.mp hv0
  obtain ⟨fs, hfs, hv⟩ := Option.bind_eq_some_iff.mp hv1
  obtain ⟨ad, rfl, hm⟩ := ax_arr_spec hes
  obtain ⟨bd, rfl, hm2⟩ := ax_arr_spec hfs
  by_cases hC : ax_allI es = true ∧ ¬ n < 0 ∧ n.toNatClampNeg ≤ es.length ∧ n.toNatClampNeg ≤ fs.length
  · rw [if_pos hC] at hv
    obtain ⟨hI, hn0, hn1, hn2⟩ := hC
    have hv : ax_set h bd (.inr (1, es.take n.toNatClampNeg ++ fs.drop n.toNatClampNeg)) = h2 := Option.some.inj hv
    subst hv
    obtain ⟨-, cs, hc, hcls, hvm1, hvm2, hsl⟩ := hR.2.2.2.2.2 ad _ hm
    obtain ⟨hge, cd, hc', hcls', hvm1', hvm2', hsl'⟩ := hR.2.2.2.2.2 bd _ hm2
    have hcls : cs.cls = G.2.1 1 := hcls
    have hcls' : cd.cls = G.2.1 1 := hcls'
    have hsl : cs.slots = (es.map (ax_v G)).toArray := hsl
    have hsl' : cd.slots = (fs.map (ax_v G)).toArray := hsl'
    have hz1 : cs.slots.size = es.length := by rw [hsl]; simp
    have hz2 : cd.slots.size = fs.length := by rw [hsl']; simp
    have hb0 : bd ≠ 0 := fun q => by
      obtain ⟨z, hz⟩ := hge.mp q
      cases hz
    have hK := B.2.2.2.2.2.2
    have hwt := ax_wt_eq G rest
    have hnn := ax_nn n hn0
    have z0 : (0 : Int32).toInt = 0 := by decide
    have z1 : (0 : Int32).toNatClampNeg = 0 := by decide
    obtain ⟨-, k1, hk1, cm, hkind⟩ := (hK.2.2.1 1 (by decide)).1 0 (fun _ => .null)
    have hk1 : s.vm.classes[G.2.1 1]? = some k1 := hk1
    have hkind : k1.kind = .array cm .int := hkind
    have hget : ∀ i, i < n.toNatClampNeg → ∃ z, cs.slots.getD i .null = .int z := fun i hi => by
      have hlt : i < cs.slots.size := by omega
      obtain ⟨z, hz⟩ := ax_allI_at (G := G) hI (i := i) (v := cs.slots[i]) (by rw [← hsl]; exact Array.getElem?_eq_getElem hlt)
      refine ⟨z, ?_⟩
      rw [Array.getD_eq_getD_getElem?, Array.getElem?_eq_getElem hlt, hz]
      rfl
    intro T hT X
    obtain ⟨vm', X', step⟩ := X.arraycopy B.1 B.2.2.2.2.2.1 (ax_word hK w1 rfl rfl) (ax_word hK w2 rfl rfl) (ax_word hK w3 rfl rfl) (ax_word hK w4 rfl rfl) (src := ax_ad G ad) (dst := ax_ad G bd) (cs := cs) (cd := cd) (srcPos := 0) (destPos := 0) (n := n) (by rw [hT]; exact hc) (by rw [hT]; exact hc') hvm2 hvm2' hvm1 hvm1' (by rw [hcls]; exact hk1) (by rw [hcls']; exact hk1) hkind hkind (by decide) (by decide) (by decide) hn0
      (by rw [z0, hnn, hz1]; omega) (by rw [z0, hnn, hz2]; omega)
      (fun vm₁ _ i hi => by
        rw [z1, Nat.zero_add]
        obtain ⟨z, hz⟩ := hget i hi
        rw [hz]
        exact ⟨rfl, trivial⟩)
      (g := F0 m pc ls (.int n :: .int 0 :: .ref (ax_ad G bd) :: .int 0 :: .ref (ax_ad G ad) :: rest.map (ax_v G))) rfl (by rw [B.2.2.1]; exact hl.1) (rest := rest.map (ax_v G)) rfl (by rw [B.2.1]; exact hd) (by show 1 ≤ d; exact hd1) (by
        have : nativeFrameWords "java/lang/System" "arraycopy" 5 = 7 := by decide +kernel
        rw [this]
        show 2 * 0 + _ + _ ≤ 60 * d
        omega)
    have hst1 : cs.stretch (0 : Int32).toNatClampNeg n.toNatClampNeg = (es.take n.toNatClampNeg).map (ax_v G) := by
      apply List.ext_getElem?
      intro i
      unfold Cell.stretch
      rw [z1, List.getElem?_map, List.getElem?_map, List.getElem?_take]
      by_cases hi : i < n.toNatClampNeg
      · rw [List.getElem?_range hi, if_pos hi, Option.map_some, Nat.zero_add, Array.getD_eq_getD_getElem?, hsl, List.getElem?_toArray, List.getElem?_map]
        have hlt : i < es.length := by omega
        rw [List.getElem?_eq_getElem hlt]
        rfl
      · rw [if_neg hi, List.getElem?_eq_none (by rw [List.length_range]; omega)]
        rfl
    obtain ⟨q1, q2, q3, -, -⟩ := cd.storePairs_facts 0 ((cs.stretch (0 : Int32).toNatClampNeg n.toNatClampNeg).zipIdx)
    have hnew : (copied cs cd 0 0 n).slots = ((es.take n.toNatClampNeg ++ fs.drop n.toNatClampNeg).map (ax_v G)).toArray := by
      apply Array.toList_inj.mp
      show (cd.storePairs (0 : Int32).toNatClampNeg ((cs.stretch (0 : Int32).toNatClampNeg n.toNatClampNeg).zipIdx 0)).slots.toList = _
      rw [hst1, z1, ax_store _ _ 0 (by rw [List.length_map, List.length_take, hz2]; omega), hsl']
      rw [List.length_map, List.length_take]
      have : min n.toNatClampNeg es.length = n.toNatClampNeg := by omega
      rw [this, Nat.zero_add]
      simp [List.map_append, List.map_drop]
    have hlt : ax_ad G bd < H.size := (Array.getElem?_eq_some_iff.mp hc').1
    have hR2 : ax_R G (ax_set h bd (.inr (1, es.take n.toNatClampNeg ++ fs.drop n.toNatClampNeg))) (H.setIfInBounds (ax_ad G bd) (copied cs cd 0 0 n)) := by
      refine hR.set hb0 (fun ⟨z, hz⟩ => by cases hz) ⟨copied cs cd 0 0 n, by simp [Array.getElem?_setIfInBounds, hlt], ?_, ?_, ?_, hnew⟩ (by simp) (fun q hq => by simp [Array.getElem?_setIfInBounds, Ne.symm hq])
      · exact q1.trans hcls'
      · intro z
        exact hvm1' (q2.symm.trans z)
      · intro k z
        exact hvm2' k (q2.symm.trans z)
    obtain ⟨t, a1, b1⟩ := kk _ r h' e2 _ (locs ++ (cs.stretch (0 : Int32).toNatClampNeg n.toNatClampNeg).zipIdx.map fun q => ⟨ax_ad G bd, (0 : Int32).toNatClampNeg + q.2⟩) cells slots ls hl hR2 a b (fun q hq => by
      rcases List.mem_append.mp hq with h | h
      · exact cL q h
      · obtain ⟨z, -, hz⟩ := List.mem_map.mp h
        rw [← hz]
        exact ax_ad_ge hb0) ((T.setVm vm').setCell (ax_ad G bd) (copied cs cd 0 0 n)) (by rw [← hT]; rfl) X'
    exact ⟨t, step t a1, b1⟩
  · rw [if_neg hC] at hv
    cases hv
end AXC
theorem d_Arrays_copyOf_0 : decode prog_22_method_123_code 0 = .ok (.iload_n 1, 1) := by decide +kernel
theorem d_Arrays_copyOf_1 : decode prog_22_method_123_code 1 = .ok (.aload_n 0, 1) := by decide +kernel
theorem d_Arrays_copyOf_2 : decode prog_22_method_123_code 2 = .ok (.arraylength, 1) := by decide +kernel
theorem d_Arrays_copyOf_3 : decode prog_22_method_123_code 3 = .ok (.if_icmp .ne 11, 3) := by decide +kernel
theorem d_Arrays_copyOf_6 : decode prog_22_method_123_code 6 = .ok (.aload_n 0, 1) := by decide +kernel
theorem d_Arrays_copyOf_7 : decode prog_22_method_123_code 7 = .ok (.invokevirtual 316, 3) := by decide +kernel
theorem d_Arrays_copyOf_10 : decode prog_22_method_123_code 10 = .ok (.checkcast 317, 3) := by decide +kernel
theorem d_Arrays_copyOf_13 : decode prog_22_method_123_code 13 = .ok (.areturn, 1) := by decide +kernel
theorem d_Arrays_copyOf_14 : decode prog_22_method_123_code 14 = .ok (.iload_n 1, 1) := by decide +kernel
theorem d_Arrays_copyOf_15 : decode prog_22_method_123_code 15 = .ok (.newarray .int, 2) := by decide +kernel
theorem d_Arrays_copyOf_17 : decode prog_22_method_123_code 17 = .ok (.astore_n 2, 1) := by decide +kernel
theorem d_Arrays_copyOf_18 : decode prog_22_method_123_code 18 = .ok (.aload_n 0, 1) := by decide +kernel
theorem d_Arrays_copyOf_19 : decode prog_22_method_123_code 19 = .ok (.iconst 0, 1) := by decide +kernel
theorem d_Arrays_copyOf_20 : decode prog_22_method_123_code 20 = .ok (.aload_n 2, 1) := by decide +kernel
theorem d_Arrays_copyOf_21 : decode prog_22_method_123_code 21 = .ok (.iconst 0, 1) := by decide +kernel
theorem d_Arrays_copyOf_22 : decode prog_22_method_123_code 22 = .ok (.aload_n 0, 1) := by decide +kernel
theorem d_Arrays_copyOf_23 : decode prog_22_method_123_code 23 = .ok (.arraylength, 1) := by decide +kernel
theorem d_Arrays_copyOf_24 : decode prog_22_method_123_code 24 = .ok (.iload_n 1, 1) := by decide +kernel
theorem d_Arrays_copyOf_25 : decode prog_22_method_123_code 25 = .ok (.invokestatic 304, 3) := by decide +kernel
theorem d_Arrays_copyOf_28 : decode prog_22_method_123_code 28 = .ok (.invokestatic 150, 3) := by decide +kernel
theorem d_Arrays_copyOf_31 : decode prog_22_method_123_code 31 = .ok (.aload_n 2, 1) := by decide +kernel
theorem d_Arrays_copyOf_32 : decode prog_22_method_123_code 32 = .ok (.areturn, 1) := by decide +kernel
def Arrays_copyOf_b (_call : ax_Cf) (x0 : Option Nat) (x1 : Int32) (h : ax_Hp) : ax_O :=
  (ax_len h x0 1).bind fun v1 =>
  if x1 = v1 then
    ax_nw (ax_cln h x0) fun a h2 =>
    ax_rr (some a) h2
  else
    ax_nw (ax_na h 1 x1 (ax_I 0)) fun a h2 =>
    (ax_len h2 x0 1).bind fun v2 =>
    (ax_acp h2 x0 (some a) (if x1 < v2 then x1 else v2)).bind fun h3 =>
    ax_rr (some a) h3
set_option maxHeartbeats 4000000 in
theorem Arrays_copyOf_t {l : Launch} {G : ax_G} {d : Nat} {call : ax_Cf} (_hcall : ax_Hc l G d call) (x0 : Option Nat) (x1 : Int32) (h : ax_Hp) {r : ax_Rs} {h' : ax_Hp} (ho : Arrays_copyOf_b call x0 x1 h = some (r, h')) : ax_C l G (d + 1) y_Arrays_copyOf (.code y_Arrays_copyOf prog_22_method_123_code 3 (some (.array .int))) [ax_A x0, ax_I x1] h r h' := by
  refine ax_enter (by decide) (Nat.le_of_ble_eq_true rfl) ho (fun p e s mi args below meth c B E Nm => ?_)
  have B : ax_B G p s mi meth c "java/util/Arrays" prog_22_method_123_code 3 (some (.array .int)) := B
  show ax_W G p l e s mi args below meth c 3 (d + 1) h 0 [(0, ax_A x0), (1, ax_I x1)] [] h (Arrays_copyOf_b call x0 x1 h)
  unfold Arrays_copyOf_b
  refine ax_iload_n B 1 d_Arrays_copyOf_0 rfl rfl ?_
  refine ax_aload_n B 0 d_Arrays_copyOf_1 rfl rfl ?_
  refine ax_alen (kd := 1) B (by decide) d_Arrays_copyOf_2 (fun v1 => ?_)
  refine ax_icmp_ne B 14 d_Arrays_copyOf_3 (by decide) ?_ ?_
  · refine ax_iload_n B 1 d_Arrays_copyOf_14 rfl rfl ?_
    refine ax_newa (kd := 1) B (by decide) (by decide) rfl (List.mem_append_right _ (by decide +kernel)) rfl (fun _ => rfl) (by decide) d_Arrays_copyOf_15 (fun a h2 => ?_)
    refine ax_astore_n (tv2 := [(2, ax_A (some a)), (0, ax_A x0), (1, ax_I x1)]) B d_Arrays_copyOf_17 rfl (by decide) rfl ?_
    refine ax_aload_n B 1 d_Arrays_copyOf_18 rfl rfl ?_
    refine ax_iconst (v := 0) B d_Arrays_copyOf_19 (by decide) ?_
    refine ax_aload_n B 0 d_Arrays_copyOf_20 rfl rfl ?_
    refine ax_iconst (v := 0) B d_Arrays_copyOf_21 (by decide) ?_
    refine ax_aload_n B 1 d_Arrays_copyOf_22 rfl rfl ?_
    refine ax_alen (kd := 1) B (by decide) d_Arrays_copyOf_23 (fun v2 => ?_)
    refine ax_iload_n B 2 d_Arrays_copyOf_24 rfl rfl ?_
    refine ax_mmin B (List.mem_append_right _ (by decide +kernel)) (List.mem_append_right _ (by decide +kernel)) (List.mem_append_right _ (by decide +kernel)) (List.mem_append_right _ (by decide +kernel)) (Nat.le_of_ble_eq_true rfl) (by omega) d_Arrays_copyOf_25 ?_
    refine ax_acopy B (List.mem_append_right _ (by decide +kernel)) (List.mem_append_right _ (by decide +kernel)) (List.mem_append_right _ (by decide +kernel)) (List.mem_append_right _ (by decide +kernel)) (Nat.le_of_ble_eq_true rfl) (by omega) d_Arrays_copyOf_28 (fun h3 => ?_)
    refine ax_aload_n B 0 d_Arrays_copyOf_31 rfl rfl ?_
    exact ax_areturn B rfl (Or.inr ⟨_, rfl⟩) d_Arrays_copyOf_32
  · refine ax_aload_n B 0 d_Arrays_copyOf_6 rfl rfl ?_
    refine ax_clone B (List.mem_append_right _ (by decide +kernel)) (List.mem_append_right _ (by decide +kernel)) (List.mem_append_right _ (by decide +kernel)) (List.mem_append_right _ (by decide +kernel)) (List.mem_append_right _ (by decide +kernel)) (List.mem_append_right _ (by decide +kernel)) (Nat.le_of_ble_eq_true rfl) (by omega) d_Arrays_copyOf_7 (fun a h2 hh => ?_)
    refine ax_castI B (List.mem_append_right _ (by decide +kernel)) hh d_Arrays_copyOf_10 ?_
    exact ax_areturn B rfl (Or.inr ⟨_, rfl⟩) d_Arrays_copyOf_13
