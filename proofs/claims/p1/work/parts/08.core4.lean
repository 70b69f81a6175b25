def ax_sa (h : ax_Hp) (x : Option Nat) (kd ci : Nat) (i : Int32) (v : Option Nat) : Option ax_Hp := match v with
  | none => ax_st h x kd i (ax_A none)
  | some b => (ax_obj h (some b) ci).bind fun _ => ax_st h x kd i (ax_A (some b))
def ax_fuel : Nat := 1000000000000
section AX4
variable {G : ax_G} {p : Program} {l : Launch} {e : Env} {s : State} {m : MethodId} {args : Array Value} {below : List Frame} {meth : Method} {c : Code} {own : String} {cc : ByteArray} {nL : Nat} {ret : Option FieldType} {d : Nat} {h0 h : ax_Hp} {pc : Nat} {tv : List (Nat × ax_T)} {rest : List ax_T} {o : ax_O}
variable {ci k idx : Nat} {C : String} {T : u_T} {N : Nat} {ty0 : Nat → FieldType} {x : Option Nat} {kd : Nat}
theorem ax_aast (B : ax_B G p s m meth c own cc nL ret) {i : Int32} {v : Option Nat} (hC : ax_Cl ci C T N ty0) (hkd : kd < ax_nk) (hk0 : kd ≠ 0) (hty : ax_kty kd = .object C) (hd : decode cc pc = .ok (.aastore, 1)) {q : ax_Hp → ax_O}
    (kk : ∀ h2, ax_W G p l e s m args below meth c nL d h0 (pc + 1) tv rest h2 (q h2)) : ax_W G p l e s m args below meth c nL d h0 pc tv (ax_A v :: ax_I i :: ax_A x :: rest) h ((ax_sa h x kd ci i v).bind q) := by
  intro r h' e1 H locs cells slots ls hl hR a b cL
  obtain ⟨h2, hv, e2⟩ := Option.bind_eq_some_iff.mp e1
  have hK := B.2.2.2.2.2.2
  cases v with
  | none =>
    obtain ⟨ad, es, rfl, hm, hi, rfl⟩ := ax_st_spec hv
    obtain ⟨hge, cell, c1, c2, c3, c4, c5⟩ := hR.2.2.2.2.2 ad _ hm
    exact va_WaastN (C := C) B.1 B.2.1 c1 (by rw [← hty]; exact ax_isarr hK hkd c2 c4) c3 (ax_stin c5 hi) rfl rfl hd (ax_stgo (v := ax_A none) hk0 kk hm e2 hl hR a b cL c2 c3 c4 c5)
  | some w =>
    obtain ⟨fs, hfs, hv⟩ := Option.bind_eq_some_iff.mp hv
    obtain ⟨w2, hw2, hmw⟩ := ax_obj_spec hfs
    cases hw2
    obtain ⟨ad, es, rfl, hm, hi, rfl⟩ := ax_st_spec hv
    obtain ⟨hge, cell, c1, c2, c3, c4, c5⟩ := hR.2.2.2.2.2 ad _ hm
    obtain ⟨-, r1, hr1, hlen, cellV, g1, g2, g3, -⟩ := hR.2.2.2.2.2 w _ hmw
    have hcls := (hK.1.1 ci _ hC.1).2
    have hRA := (hK.2.2.1 kd hkd).2 hk0
    rw [hty] at hRA
    obtain ⟨kA, comp, k1, k2, k3, -⟩ := hRA
    have hcomp : comp = G.1.1 ci := Option.some.inj (k3.symm.trans hcls.1)
    subst hcomp
    obtain ⟨kC, hkC, -⟩ := hcls.2
    have hin := ax_stin c5 hi
    exact W.aast B.1 B.2.1 c1 c4 c3 (by rw [c2]; exact k1) k2 rfl hkC ⟨fun z => hin (Or.inl z), Nat.not_le.mp fun z => hin (Or.inr z)⟩ g1 (fun q h => by rw [g3] at h; cases h) (by rw [g2]; exact hkC) (by rw [g2]; exact va_assign hcls) rfl rfl hd (ax_stgo (v := ax_A (some w)) hk0 kk hm e2 hl hR a b cL c2 c3 c4 c5)
theorem ax_anew (B : ax_B G p s m meth c own cc nL ret) {n : Int32} (hkd : kd < ax_nk) (hk0 : kd ≠ 0) (hty : ax_kty kd = .object C) (hcl : Cond.classLink own idx C ∈ lw_tbl) (hov : Cond.arrayOver (.object C) ∈ lw_tbl) (hd : decode cc pc = .ok (.anewarray idx, 3)) {q : Nat → ax_Hp → ax_O}
    (kk : ∀ a h2, ax_W G p l e s m args below meth c nL d h0 (pc + 3) tv (ax_A (some a) :: rest) h2 (q a h2)) : ax_W G p l e s m args below meth c nL d h0 pc tv (ax_I n :: rest) h (ax_nw (ax_na h kd n (ax_A none)) q) := by
  intro r h' e1 H locs cells slots ls hl hR a b cL
  obtain ⟨y, hv, e2⟩ := Option.bind_eq_some_iff.mp e1
  obtain ⟨hn, hbig, hv⟩ := ax_na_spec hv
  obtain ⟨⟨hc1, hc2⟩, rfl⟩ := ax_add_spec hv
  have hK := B.2.2.2.2.2.2
  have hsz := ax_ad_new hR
  have hbytes : n.toNatClampNeg * 4 ≤ 536870912 := by omega
  refine W.anew B.1 B.2.1 B.2.2.2.2.2.1 (ax_word hK hcl rfl rfl) (va_AO.use (hK.2.1 _ hov (by unfold ax_ok; rw [Bool.or_eq_true]; exact Or.inr rfl))) rfl hd rfl hn hbytes (by show cells + 1 ≤ ax_CM - h0.1; omega) (by show slots + n.toNatClampNeg ≤ ax_SM - h0.2.1; omega) fun cA kA comp f1 f2 f3 f4 => ?_
  have hcA : cA = G.2.1 kd := by
    have hRA := (hK.2.2.1 kd hkd).2 hk0
    rw [hty] at hRA
    obtain ⟨_, _, -, -, -, k4⟩ := hRA
    exact Option.some.inj (f1.symm.trans k4)
  subst hcA
  have hR2 := hR.push (H1 := H.push { cls := G.2.1 kd, slots := Array.replicate n.toNatClampNeg .null, vm := .none }) (n := n.toNatClampNeg) (o := some (.inr (kd, List.replicate n.toNatClampNeg (ax_A none)))) hc1 hc2 (fun ⟨es, q⟩ => by cases q; exact hk0 rfl) (fun z hz => by
    cases hz
    refine ⟨_, by rw [hsz]; exact Array.getElem?_push_size, rfl, (fun q => by cases q), (fun k q => by cases q), ?_⟩
    simp [List.map_replicate, ax_v]) (by simp) (fun q hq => by rw [Array.getElem?_push, if_neg (Nat.ne_of_lt hq)])
  have := kk (h.1 + 1) _ r h' e2 _ locs (cells + 1) (slots + n.toNatClampNeg) ls hl hR2 (by show cells + 1 + h0.1 = h.1 + 1; omega) (by show slots + n.toNatClampNeg + h0.2.1 = h.2.1 + n.toNatClampNeg; omega) cL
  rw [List.map_cons, show ax_v G (ax_A (some (h.1 + 1))) = .ref H.size by rw [← hsz]; rfl] at this
  exact this
end AX4
