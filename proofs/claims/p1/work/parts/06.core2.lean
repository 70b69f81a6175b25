theorem ax_at.kept {G : ax_G} {a : Nat} {o : ax_Ob} {H H1 : Heap} (h : ax_at G a o H) (hq : H1[ax_ad G a]? = H[ax_ad G a]?) : ax_at G a o H1 := by
  cases o with
  | inl q =>
    obtain ⟨r, h1, h2, h3⟩ := h
    exact ⟨r, h1, h2, h3.kept hq⟩
  | inr q =>
    obtain ⟨cell, h1, h2⟩ := h
    exact ⟨cell, hq.trans h1, h2⟩
theorem ax_at.lt {G : ax_G} {a : Nat} {o : ax_Ob} {H : Heap} (h : ax_at G a o H) : ax_ad G a < H.size := by
  cases o with
  | inl q =>
    obtain ⟨r, h1, h2, cell, h3, -⟩ := h
    exact (Array.getElem?_eq_some_iff.mp h3).1
  | inr q =>
    obtain ⟨cell, h1, -⟩ := h
    exact (Array.getElem?_eq_some_iff.mp h1).1
theorem ax_ad_inj {G : ax_G} (hb : G.2.2.2.1 < G.2.2.1) {i j : Nat} (h : ax_ad G i = ax_ad G j) : i = j := by
  unfold ax_ad at h
  by_cases hi : i = 0 <;> by_cases hj : j = 0
  · omega
  · rw [if_pos hi, if_neg hj] at h; omega
  · rw [if_neg hi, if_pos hj] at h; omega
  · rw [if_neg hi, if_neg hj] at h; omega
theorem ax_ad_ge {G : ax_G} {i : Nat} (h : i ≠ 0) : G.2.2.1 ≤ ax_ad G i := by
  unfold ax_ad
  rw [if_neg h]; omega
theorem ax_R.set {G : ax_G} {h : ax_Hp} {H H1 : Heap} {a : Nat} {o : ax_Ob} (hR : ax_R G h H) (ha : a ≠ 0) (h0 : ¬ ∃ es, o = .inr (0, es)) (ho : ax_at G a o H1) (hz : H1.size = H.size) (hq : ∀ q : Nat, q ≠ ax_ad G a → H1[q]? = H[q]?) : ax_R G (ax_set h a o) H1 := by
  obtain ⟨h1, h2, h3, h4, h5, h6⟩ := hR
  refine ⟨h1, h2, h3, hz.trans h4, fun q hlt => ?_, fun b o2 hb => ?_⟩
  · have := ax_ad_ge (G := G) ha
    rw [hq q (by omega)]
    exact h5 q hlt
  · have hb : (if b = a then some o else h.2.2 b) = some o2 := hb
    by_cases hba : b = a
    · rw [if_pos hba] at hb
      cases hb
      subst hba
      exact ⟨⟨fun q => absurd q ha, fun q => absurd q h0⟩, ho⟩
    · rw [if_neg hba] at hb
      obtain ⟨g1, g2⟩ := h6 b o2 hb
      exact ⟨g1, g2.kept (hq _ (fun q => hba (ax_ad_inj h1 q)))⟩
theorem ax_ad_new {G : ax_G} {h : ax_Hp} {H : Heap} (hR : ax_R G h H) : ax_ad G (h.1 + 1) = H.size := by
  unfold ax_ad
  rw [if_neg (by omega), hR.2.2.2.1]; omega
theorem ax_R.push {G : ax_G} {h : ax_Hp} {H H1 : Heap} {n : Nat} {o : Option ax_Ob} (hR : ax_R G h H) (hc : h.1 + 1 ≤ ax_CM) (hs : h.2.1 + n ≤ ax_SM) (h0 : ¬ ∃ es, o = some (.inr (0, es))) (ho : ∀ x, o = some x → ax_at G (h.1 + 1) x H1) (hz : H1.size = H.size + 1) (hq : ∀ q : Nat, q < H.size → H1[q]? = H[q]?) :
    ax_R G (h.1 + 1, h.2.1 + n, fun q => if q = h.1 + 1 then o else h.2.2 q) H1 := by
  obtain ⟨h1, h2, h3, h4, h5, h6⟩ := hR
  refine ⟨h1, hc, hs, by rw [hz, h4]; exact Nat.add_assoc _ _ _, fun q hlt => ?_, fun b o2 hb => ?_⟩
  · rw [hq q (by omega)]
    exact h5 q hlt
  · have hb2 : (if b = h.1 + 1 then o else h.2.2 b) = some o2 := hb
    clear hb
    by_cases hba : b = h.1 + 1
    · rw [if_pos hba] at hb2
      subst hba
      refine ⟨⟨fun q => absurd q (by omega), fun ⟨es, q⟩ => absurd ⟨es, by rw [hb2, q]⟩ h0⟩, ho _ hb2⟩
    · rw [if_neg hba] at hb2
      obtain ⟨g1, g2⟩ := h6 b o2 hb2
      exact ⟨g1, g2.kept (hq _ g2.lt)⟩
theorem ax_obj_spec {h : ax_Hp} {x : Option Nat} {ci : Nat} {fs : List ax_T} (e : ax_obj h x ci = some fs) : ∃ a, x = some a ∧ h.2.2 a = some (.inl (ci, fs)) := by
  unfold ax_obj ax_at? at e
  cases x with
  | none => cases e
  | some a =>
    simp only [Option.bind_some] at e
    refine ⟨a, rfl, ?_⟩
    cases hm : h.2.2 a with
    | none => rw [hm] at e; cases e
    | some o =>
      rw [hm] at e
      rcases o with ⟨c, gs⟩ | ⟨c, gs⟩
      · simp only at e
        by_cases hc : c = ci
        · rw [if_pos hc] at e
          cases e
          rw [hc]
        · rw [if_neg hc] at e; cases e
      · cases e
theorem ax_arr_spec {h : ax_Hp} {x : Option Nat} {kd : Nat} {es : List ax_T} (e : ax_arr h x kd = some es) : ∃ a, x = some a ∧ h.2.2 a = some (.inr (kd, es)) := by
  unfold ax_arr ax_at? at e
  cases x with
  | none => cases e
  | some a =>
    simp only [Option.bind_some] at e
    refine ⟨a, rfl, ?_⟩
    cases hm : h.2.2 a with
    | none => rw [hm] at e; cases e
    | some o =>
      rw [hm] at e
      rcases o with ⟨c, gs⟩ | ⟨c, gs⟩
      · cases e
      · simp only at e
        by_cases hc : c = kd
        · rw [if_pos hc] at e
          cases e
          rw [hc]
        · rw [if_neg hc] at e; cases e
/-- a class of the claim: its number, name, fields, how many, their types -/
def ax_Cl (ci : Nat) (C : String) (T : u_T) (N : Nat) (ty0 : Nat → FieldType) : Prop :=
  vwCl[ci]? = some (C, T, N) ∧ (∀ w ∈ u_ws C T N, w ∈ lw_tbl) ∧ (∀ k, k < N → parseFieldDescriptor (T k).2.2.1 = some (ty0 k)) ∧ ∀ a, a < N → ∀ b, b < N → a ≠ b → (T a).2.1 ≠ (T b).2.1
/-- a field's entry in a pool: its own class's, or a nest mate's -/
def ax_Fk (own : String) (idx : Nat) (T : u_T) (k : Nat) : Prop := Cond.fieldLink own idx (T k).1 (T k).2.1 (T k).2.2.1 ∈ lw_tbl ∨ ∃ host : String, Cond.fieldLinkNest own idx (T k).1 (T k).2.1 (T k).2.2.1 host ∈ lw_tbl
theorem ax_word {G : ax_G} {s : State} (hK : ax_K G s) {w : Cond} (hw : w ∈ lw_tbl) (ho : ax_ok w = true) (ht : w.onTables = true) {args : Array Value} : w.before args s = true := va_Nw.use ht (hK.2.1 w hw ho)
theorem ax_lay_ok {C : String} {T : u_T} {N : Nat} {w : Cond} (hw : w ∈ u_ws C T N) : ax_ok w = true ∧ w.onTables = true := by
  obtain ⟨k, -, rfl⟩ := List.mem_map.mp hw
  unfold u_lay
  split <;> exact ⟨rfl, rfl⟩
theorem ax_lays {G : ax_G} {s : State} {args : Array Value} {ci : Nat} {C : String} {T : u_T} {N : Nat} {ty0 : Nat → FieldType} (hK : ax_K G s) (hC : ax_Cl ci C T N ty0) : ∀ w ∈ u_ws C T N, w.before args s = true :=
  fun w hw => ax_word hK (hC.2.1 w hw) (ax_lay_ok hw).1 (ax_lay_ok hw).2
theorem ax_mapset (G : ax_G) (fs : List ax_T) (k : Nat) (v : ax_T) : (fs.set k v).map (ax_v G) = (fs.map (ax_v G)).set k (ax_v G v) := by
  rw [List.map_set]
section AX2
variable {G : ax_G} {p : Program} {l : Launch} {e : Env} {s : State} {m : MethodId} {args : Array Value} {below : List Frame} {meth : Method} {c : Code} {own : String} {cc : ByteArray} {nL : Nat} {ret : Option FieldType} {d : Nat} {h0 h : ax_Hp} {pc : Nat} {tv : List (Nat × ax_T)} {rest : List ax_T} {o : ax_O}
variable {ci k idx : Nat} {C : String} {T : u_T} {N : Nat} {ty0 : Nat → FieldType} {x : Option Nat}
theorem ax_getf (B : ax_B G p s m meth c own cc nL ret) (hC : ax_Cl ci C T N ty0) (hk : k < N) (hF : ax_Fk own idx T k) (hd : decode cc pc = .ok (.getfield idx, 3)) {q : ax_T → ax_O}
    (kk : ∀ v, ax_W G p l e s m args below meth c nL d h0 (pc + 3) tv (v :: rest) h (q v)) : ax_W G p l e s m args below meth c nL d h0 pc tv (ax_A x :: rest) h ((ax_gf h x ci k).bind q) := by
  intro r h' e1 H locs cells slots ls hl hR a b cL
  obtain ⟨v, hv, e2⟩ := Option.bind_eq_some_iff.mp e1
  obtain ⟨fs, hfs, hvk⟩ := Option.bind_eq_some_iff.mp hv
  obtain ⟨ad, rfl, hm⟩ := ax_obj_spec hfs
  obtain ⟨hge, hat⟩ := hR.2.2.2.2.2 ad _ hm
  obtain ⟨r1, hr1, hlen, hOB⟩ := hat
  have hP : va_P G.1 vwCl [(ax_ad G ad, .inr (ci, fs.map (ax_v G)))] H := by
    intro k2 q2 h2
    cases k2 with
    | zero => cases h2; exact ⟨r1, hr1, hOB⟩
    | succ k2 => simp at h2
  have hts := ax_lays (args := args) B.2.2.2.2.2.2 hC
  rcases hF with hF | ⟨host, hF⟩
  · exact va_get (ws := [(ax_ad G ad, .inr (ci, fs.map (ax_v G)))]) B.1 B.2.1 hts (fun _ h => h) B.2.2.2.2.2.1 B.2.2.2.2.2.2.1 hP 0 rfl hC.1 k hk (ax_word B.2.2.2.2.2.2 hF rfl rfl) (fun _ h => h) (v := ax_v G v) (by simp [hvk]) hd (kk v r h' e2 H locs cells slots ls hl hR a b cL)
  · exact va_getN (ws := [(ax_ad G ad, .inr (ci, fs.map (ax_v G)))]) B.1 B.2.1 hts (fun _ h => h) B.2.2.2.2.2.1 B.2.2.2.2.2.2.1 hP 0 rfl hC.1 k hk (ax_word B.2.2.2.2.2.2 hF rfl rfl) (fun _ h => h) (v := ax_v G v) (by simp [hvk]) hd (kk v r h' e2 H locs cells slots ls hl hR a b cL)
theorem ax_bi {t : Option ax_T} {q : Int32 → ax_O} : (ax_ti t).bind q = t.bind (fun v => match v with | .inl n => q n | _ => none) := by
  rcases t with _ | (_ | _ | _) <;> rfl
theorem ax_bl {t : Option ax_T} {q : Int64 → ax_O} : (ax_tl t).bind q = t.bind (fun v => match v with | .inr (.inl n) => q n | _ => none) := by
  rcases t with _ | (_ | _ | _) <;> rfl
theorem ax_br {t : Option ax_T} {q : Option Nat → ax_O} : (ax_tr t).bind q = t.bind (fun v => match v with | .inr (.inr n) => q n | _ => none) := by
  rcases t with _ | (_ | _ | _) <;> rfl
theorem ax_getfi (B : ax_B G p s m meth c own cc nL ret) (hC : ax_Cl ci C T N ty0) (hk : k < N) (hF : ax_Fk own idx T k) (hd : decode cc pc = .ok (.getfield idx, 3)) {q : Int32 → ax_O}
    (kk : ∀ v, ax_W G p l e s m args below meth c nL d h0 (pc + 3) tv (ax_I v :: rest) h (q v)) : ax_W G p l e s m args below meth c nL d h0 pc tv (ax_A x :: rest) h ((ax_gi h x ci k).bind q) :=
  ax_eq ax_bi (ax_getf B hC hk hF hd (fun v => by rcases v with v | v | v; exact kk v; exact ax_none; exact ax_none))
theorem ax_getfl (B : ax_B G p s m meth c own cc nL ret) (hC : ax_Cl ci C T N ty0) (hk : k < N) (hF : ax_Fk own idx T k) (hd : decode cc pc = .ok (.getfield idx, 3)) {q : Int64 → ax_O}
    (kk : ∀ v, ax_W G p l e s m args below meth c nL d h0 (pc + 3) tv (ax_L v :: rest) h (q v)) : ax_W G p l e s m args below meth c nL d h0 pc tv (ax_A x :: rest) h ((ax_gl h x ci k).bind q) :=
  ax_eq ax_bl (ax_getf B hC hk hF hd (fun v => by rcases v with v | v | v; exact ax_none; exact kk v; exact ax_none))
theorem ax_getfr (B : ax_B G p s m meth c own cc nL ret) (hC : ax_Cl ci C T N ty0) (hk : k < N) (hF : ax_Fk own idx T k) (hd : decode cc pc = .ok (.getfield idx, 3)) {q : Option Nat → ax_O}
    (kk : ∀ v, ax_W G p l e s m args below meth c nL d h0 (pc + 3) tv (ax_A v :: rest) h (q v)) : ax_W G p l e s m args below meth c nL d h0 pc tv (ax_A x :: rest) h ((ax_gr h x ci k).bind q) :=
  ax_eq ax_br (ax_getf B hC hk hF hd (fun v => by rcases v with v | v | v; exact ax_none; exact ax_none; exact kk v))
/-- may this field be written here? -/
def ax_Wr (own : String) (idx : Nat) (T : u_T) (k : Nat) (nm : String) : Prop := (T k).2.2.2 = false ∨ (Cond.fieldLink own idx (T k).1 (T k).2.1 (T k).2.2.1 ∈ lw_tbl ∧ (T k).2.2.2 = true ∧ nm = "<init>" ∧ (T k).1 = own)
theorem ax_putf (B : ax_B G p s m meth c own cc nL ret) {v : ax_T} (hC : ax_Cl ci C T N ty0) (hk : k < N) (hF : ax_Fk own idx T k) (hfin : ax_Wr own idx T k meth.name) (hn : ∀ G, narrow (ty0 k) (ax_v G v) = ax_v G v) (hfit : ∀ G, fits (ty0 k) (ax_v G v) = true)
    (hd : decode cc pc = .ok (.putfield idx, 3)) {q : ax_Hp → ax_O} (kk : ∀ h2, ax_W G p l e s m args below meth c nL d h0 (pc + 3) tv rest h2 (q h2)) : ax_W G p l e s m args below meth c nL d h0 pc tv (v :: ax_A x :: rest) h ((ax_pf h x ci k v).bind q) := by
  intro r h' e1 H locs cells slots ls hl hR a b cL
  obtain ⟨h2, hv, e2⟩ := Option.bind_eq_some_iff.mp e1
  obtain ⟨fs, hfs, hv⟩ := Option.bind_eq_some_iff.mp hv
  obtain ⟨ad, rfl, hm⟩ := ax_obj_spec hfs
  by_cases hkl : k < fs.length
  · rw [if_pos hkl] at hv
    have hv : h2 = ax_set h ad (.inl (ci, fs.set k v)) := (Option.some.inj hv).symm
    subst hv
    obtain ⟨hge, hat⟩ := hR.2.2.2.2.2 ad _ hm
    have had : ad ≠ 0 := fun q => by obtain ⟨es, h⟩ := hge.mp q; cases h
    obtain ⟨r1, hr1, hlen, cell, q1, q2, q3, q4⟩ := hat
    have hr : r1 = (C, T, N) := Option.some.inj (hr1.symm.trans hC.1)
    subst hr
    have hK := B.2.2.2.2.2.2
    have hown := B.2.2.2.2.2.1
    have hts := ax_lays (args := args) hK hC
    have hap := va_apart (own := own) (Ts := u_ws C T N) hts (fun _ h => h) ty0 hC.2.2.1 hC.2.2.2 hK.1 hC.1
    obtain ⟨hS, hfc, kC, hkC, hkind⟩ := hK.1.1 ci _ hC.1
    obtain ⟨cf, kf, fi, f, hi, hsl⟩ := hS k hk
    have hst := (u_facts hfc hkC (u_lays hts (fun _ h => h) hk) hi).1
    have go : ∀ H1 : Heap, H1[ax_ad G ad]? = some (cell.setSlot f.slot (ax_v G v)) → H1.size = H.size → (∀ q, q ≠ ax_ad G ad → H1[q]? = H[q]?) → W p l e (ax_rm d h0) s m args below meth c H1 (locs ++ [⟨ax_ad G ad, f.slot⟩]) cells slots (ax_Q G below s h0 r h') (F0 m (pc + 3) ls (rest.map (ax_v G))) := by
      intro H1 g1 g2 g3
      rw [hsl] at g1
      have hR2 : ax_R G (ax_set h ad (.inl (ci, fs.set k v))) H1 := by
        refine hR.set had (fun ⟨es, q⟩ => by cases q) ⟨_, hC.1, by rw [List.length_set]; exact hlen, ?_⟩ g2 g3
        rw [ax_mapset]
        exact t_OB.to (V := updV (vp_V (fs.map (ax_v G))) k (ax_v G v)) ⟨_, g1, q2, q3, t_set q4 hap hk (ax_v G v)⟩ (fun j _ => vp_updV_set (by rw [List.length_map]; exact hkl) (ax_v G v) j)
      refine kk _ r h' e2 H1 _ cells slots ls hl hR2 a b (fun q hq => ?_)
      rcases List.mem_append.mp hq with hq | hq
      · exact cL q hq
      · rw [List.mem_singleton.mp hq]
        exact ax_ad_ge had
    have hslot : f.slot < cell.slots.size := by rw [hsl]; exact k2_hasslot (q4 k hk)
    rcases hfin with hfin | ⟨hF2, hfin, hin, hdecl⟩
    · have hlay := hts _ (u_in_lay hk)
      unfold u_lay at hlay
      rw [if_neg (by rw [hfin]; decide)] at hlay
      have h6 := u_store hfc hkC hkind hlay hi (hC.2.2.1 k hk) (hn G) (hfit G)
      rcases hF with hF | ⟨host, hF⟩
      · exact W.putK B.1 B.2.1 (f := f) ⟨hown, ax_word hK hF rfl rfl, ⟨_, _, _, hi⟩, hst⟩ (by rw [q2]; exact h6) q1 q3 hslot rfl rfl hd go
      · exact va_WputK B.1 B.2.1 (f := f) hown (ax_word hK hF rfl rfl) hi hst (by rw [q2]; exact h6) q1 q3 hslot rfl rfl hd go
    · have hlay := hts _ (u_in_lay hk)
      unfold u_lay at hlay
      rw [if_pos hfin] at hlay
      have hcf : m.cls = cf := by
        obtain ⟨_, _, c', _, _, _, -, -, hf', -, -, -, hown2, -⟩ := Cond.laysFinal_spec hlay
        have e1 : c' = cf := by have := hi.symm.trans hf'; simp at this; exact this.1.symm
        rw [hdecl] at hown2
        rw [← e1]; exact Option.some.inj (hown.symm.trans hown2)
      have h6 := u_fits hfc hkC hkind (Or.inr hlay) hi (hC.2.2.1 k hk) (hn G) (hfit G)
      exact W.putFinK B.1 B.2.1 hown (ax_word hK hF2 rfl rfl) hi hst hcf hin (by rw [q2]; exact h6) q1 q3 hslot rfl rfl hd go
  · rw [if_neg hkl] at hv; cases hv
theorem ax_putfz (B : ax_B G p s m meth c own cc nL ret) {v : Int32} (hC : ax_Cl ci C T N ty0) (hk : k < N) (hF : ax_Fk own idx T k) (hfin : ax_Wr own idx T k meth.name) (hty : ty0 k = .boolean)
    (hd : decode cc pc = .ok (.putfield idx, 3)) {q : ax_Hp → ax_O} (kk : ∀ h2, ax_W G p l e s m args below meth c nL d h0 (pc + 3) tv rest h2 (q h2)) : ax_W G p l e s m args below meth c nL d h0 pc tv (ax_I v :: ax_A x :: rest) h ((ax_pz h x ci k v).bind q) := by
  unfold ax_pz
  by_cases hv : v = 0 ∨ v = 1
  · rw [if_pos hv]
    refine ax_putf B hC hk hF hfin (fun _ => ?_) (fun _ => ?_) hd kk
    · rw [hty]; rcases hv with rfl | rfl <;> rfl
    · rw [hty]; rcases hv with rfl | rfl <;> rfl
  · rw [if_neg hv]; exact ax_none
variable {kd : Nat}
theorem ax_isarr (hK : ax_K G s) (hkd : kd < ax_nk) {cell : Cell} (h1 : cell.cls = G.2.1 kd) (h2 : ∀ k, cell.vm ≠ .statics k) : s.isArrayOf cell (ax_kty kd) := by
  obtain ⟨-, kA, h3, comp, h4⟩ := (hK.2.2.1 kd hkd).1 0 (fun _ => .null)
  exact ⟨h2, kA, by rw [h1]; exact h3, comp, h4⟩
theorem ax_ld_spec {i : Int32} {v : ax_T} (e : ax_ld h x kd i = some v) : ∃ a es, x = some a ∧ h.2.2 a = some (.inr (kd, es)) ∧ ¬ i < 0 ∧ es[i.toNatClampNeg]? = some v := by
  obtain ⟨es, h1, h2⟩ := Option.bind_eq_some_iff.mp e
  obtain ⟨a, rfl, hm⟩ := ax_arr_spec h1
  by_cases hi : i < 0
  · rw [if_pos hi] at h2; cases h2
  · rw [if_neg hi] at h2
    exact ⟨a, es, rfl, hm, hi, h2⟩
theorem ax_ldin {es : List ax_T} {i : Int32} {v : ax_T} {cell : Cell} (hs : cell.slots = (es.map (ax_v G)).toArray) (hi : ¬ i < 0) (hv : es[i.toNatClampNeg]? = some v) : ¬ (i < 0 ∨ cell.slots.size ≤ i.toNatClampNeg) := by
  rintro (h | h)
  · exact hi h
  · have h1 := (List.getElem?_eq_some_iff.mp hv).1
    rw [hs, List.size_toArray, List.length_map] at h
    omega
theorem ax_ldval {es : List ax_T} {i : Nat} {v : ax_T} {cell : Cell} (hs : cell.slots = (es.map (ax_v G)).toArray) (hv : es[i]? = some v) : cell.slots[i]? = some (ax_v G v) := by
  rw [hs]
  simp [hv]
theorem ax_iald (B : ax_B G p s m meth c own cc nL ret) {i : Int32} (hkd : kd < ax_nk) (hty : ax_kty kd = .int) (hd : decode cc pc = .ok (.iaload, 1)) {q : Int32 → ax_O}
    (kk : ∀ v, ax_W G p l e s m args below meth c nL d h0 (pc + 1) tv (ax_I v :: rest) h (q v)) : ax_W G p l e s m args below meth c nL d h0 pc tv (ax_I i :: ax_A x :: rest) h ((ax_ldi h x kd i).bind q) := by
  refine ax_eq ax_bi ?_
  intro r h' e1 H locs cells slots ls hl hR a b cL
  obtain ⟨v, hv, e2⟩ := Option.bind_eq_some_iff.mp e1
  obtain ⟨ad, es, rfl, hm, hi, hv⟩ := ax_ld_spec hv
  obtain ⟨hge, cell, c1, c2, c3, c4, c5⟩ := hR.2.2.2.2.2 ad _ hm
  rcases v with v | v | v
  · exact W.iald (v := .int v) B.1 B.2.1 c1 (by rw [← hty]; exact ax_isarr B.2.2.2.2.2.2 hkd c2 c4) c3 (ax_ldin c5 hi hv) (ax_ldval c5 hv) rfl rfl hd (kk v r h' e2 H locs cells slots ls hl hR a b cL)
  · cases e2
  · cases e2
theorem ax_cald (B : ax_B G p s m meth c own cc nL ret) {i : Int32} (hkd : kd < ax_nk) (hty : ax_kty kd = .char) (hd : decode cc pc = .ok (.caload, 1)) {q : Int32 → ax_O}
    (kk : ∀ v, ax_W G p l e s m args below meth c nL d h0 (pc + 1) tv (ax_I v :: rest) h (q v)) : ax_W G p l e s m args below meth c nL d h0 pc tv (ax_I i :: ax_A x :: rest) h ((ax_ldi h x kd i).bind q) := by
  refine ax_eq ax_bi ?_
  intro r h' e1 H locs cells slots ls hl hR a b cL
  obtain ⟨v, hv, e2⟩ := Option.bind_eq_some_iff.mp e1
  obtain ⟨ad, es, rfl, hm, hi, hv⟩ := ax_ld_spec hv
  obtain ⟨hge, cell, c1, c2, c3, c4, c5⟩ := hR.2.2.2.2.2 ad _ hm
  rcases v with v | v | v
  · exact W.cald (v := .int v) B.1 B.2.1 c1 (by rw [← hty]; exact ax_isarr B.2.2.2.2.2.2 hkd c2 c4) c3 (ax_ldin c5 hi hv) (ax_ldval c5 hv) rfl rfl hd (kk v r h' e2 H locs cells slots ls hl hR a b cL)
  · cases e2
  · cases e2
theorem ax_zald (B : ax_B G p s m meth c own cc nL ret) {i : Int32} (hkd : kd < ax_nk) (hty : ax_kty kd = .boolean) (hd : decode cc pc = .ok (.baload, 1)) {q : Int32 → ax_O}
    (kk : ∀ v, ax_W G p l e s m args below meth c nL d h0 (pc + 1) tv (ax_I v :: rest) h (q v)) : ax_W G p l e s m args below meth c nL d h0 pc tv (ax_I i :: ax_A x :: rest) h ((ax_ldi h x kd i).bind q) := by
  refine ax_eq ax_bi ?_
  intro r h' e1 H locs cells slots ls hl hR a b cL
  obtain ⟨v, hv, e2⟩ := Option.bind_eq_some_iff.mp e1
  obtain ⟨ad, es, rfl, hm, hi, hv⟩ := ax_ld_spec hv
  obtain ⟨hge, cell, c1, c2, c3, c4, c5⟩ := hR.2.2.2.2.2 ad _ hm
  rcases v with v | v | v
  · exact W.zald (v := .int v) B.1 B.2.1 c1 (by rw [← hty]; exact ax_isarr B.2.2.2.2.2.2 hkd c2 c4) c3 (ax_ldin c5 hi hv) (ax_ldval c5 hv) rfl rfl hd (kk v r h' e2 H locs cells slots ls hl hR a b cL)
  · cases e2
  · cases e2
theorem ax_lald (B : ax_B G p s m meth c own cc nL ret) {i : Int32} (hkd : kd < ax_nk) (hty : ax_kty kd = .long) (hd : decode cc pc = .ok (.laload, 1)) {q : Int64 → ax_O}
    (kk : ∀ v, ax_W G p l e s m args below meth c nL d h0 (pc + 1) tv (ax_L v :: rest) h (q v)) : ax_W G p l e s m args below meth c nL d h0 pc tv (ax_I i :: ax_A x :: rest) h ((ax_ldl h x kd i).bind q) := by
  refine ax_eq ax_bl ?_
  intro r h' e1 H locs cells slots ls hl hR a b cL
  obtain ⟨v, hv, e2⟩ := Option.bind_eq_some_iff.mp e1
  obtain ⟨ad, es, rfl, hm, hi, hv⟩ := ax_ld_spec hv
  obtain ⟨hge, cell, c1, c2, c3, c4, c5⟩ := hR.2.2.2.2.2 ad _ hm
  rcases v with v | v | v
  · cases e2
  · exact W.lald (v := .long v) B.1 B.2.1 c1 (by rw [← hty]; exact ax_isarr B.2.2.2.2.2.2 hkd c2 c4) c3 (ax_ldin c5 hi hv) (ax_ldval c5 hv) rfl rfl hd (kk v r h' e2 H locs cells slots ls hl hR a b cL)
  · cases e2
theorem ax_aald (B : ax_B G p s m meth c own cc nL ret) {i : Int32} (hkd : kd < ax_nk) (hty : (ax_kty kd).isReference = true) (hd : decode cc pc = .ok (.aaload, 1)) {q : Option Nat → ax_O}
    (kk : ∀ v, ax_W G p l e s m args below meth c nL d h0 (pc + 1) tv (ax_A v :: rest) h (q v)) : ax_W G p l e s m args below meth c nL d h0 pc tv (ax_I i :: ax_A x :: rest) h ((ax_ldr h x kd i).bind q) := by
  refine ax_eq ax_br ?_
  intro r h' e1 H locs cells slots ls hl hR a b cL
  obtain ⟨v, hv, e2⟩ := Option.bind_eq_some_iff.mp e1
  obtain ⟨ad, es, rfl, hm, hi, hv⟩ := ax_ld_spec hv
  obtain ⟨hge, cell, c1, c2, c3, c4, c5⟩ := hR.2.2.2.2.2 ad _ hm
  rcases v with v | v | v
  · cases e2
  · cases e2
  · exact W.aald (v := ax_v G (ax_A v)) (ty := ax_kty kd) B.1 B.2.1 c1 (ax_isarr B.2.2.2.2.2.2 hkd c2 c4) hty c3 (ax_ldin c5 hi hv) (ax_ldval c5 hv) rfl rfl hd (kk v r h' e2 H locs cells slots ls hl hR a b cL)
theorem ax_alen (B : ax_B G p s m meth c own cc nL ret) (hkd : kd < ax_nk) (hd : decode cc pc = .ok (.arraylength, 1)) {q : Int32 → ax_O}
    (kk : ∀ v, ax_W G p l e s m args below meth c nL d h0 (pc + 1) tv (ax_I v :: rest) h (q v)) : ax_W G p l e s m args below meth c nL d h0 pc tv (ax_A x :: rest) h ((ax_len h x kd).bind q) := by
  intro r h' e1 H locs cells slots ls hl hR a b cL
  obtain ⟨n, hv, e2⟩ := Option.bind_eq_some_iff.mp e1
  obtain ⟨es, h1, rfl⟩ := Option.map_eq_some_iff.mp hv
  obtain ⟨ad, rfl, hm⟩ := ax_arr_spec h1
  obtain ⟨hge, cell, c1, c2, c3, c4, c5⟩ := hR.2.2.2.2.2 ad _ hm
  exact W.alen (n := Int32.ofNat es.length) B.1 B.2.1 c1 (ax_isarr B.2.2.2.2.2.2 hkd c2 c4) (by
    rw [c5, List.size_toArray, List.length_map]) rfl rfl hd (kk _ r h' e2 H locs cells slots ls hl hR a b cL)
theorem ax_st_spec {h2 : ax_Hp} {i : Int32} {v : ax_T} (e : ax_st h x kd i v = some h2) : ∃ a es, x = some a ∧ h.2.2 a = some (.inr (kd, es)) ∧ ¬ (i < 0 ∨ es.length ≤ i.toNatClampNeg) ∧ h2 = ax_set h a (.inr (kd, es.set i.toNatClampNeg v)) := by
  obtain ⟨es, h1, h2⟩ := Option.bind_eq_some_iff.mp e
  obtain ⟨a, rfl, hm⟩ := ax_arr_spec h1
  by_cases hi : i < 0 ∨ es.length ≤ i.toNatClampNeg
  · rw [if_pos hi] at h2; cases h2
  · rw [if_neg hi] at h2
    exact ⟨a, es, rfl, hm, hi, (Option.some.inj h2).symm⟩
theorem ax_stgo {i : Int32} {v : ax_T} {es : List ax_T} {ad : Nat} {r : ax_Rs} {h' : ax_Hp} {q : ax_Hp → ax_O} {H : Heap} {locs : List Loc} {cells slots : Nat} {ls : Array Slot} {cell : Cell} (hk0 : kd ≠ 0)
    (kk : ∀ h2, ax_W G p l e s m args below meth c nL d h0 (pc + 1) tv rest h2 (q h2)) (hm : h.2.2 ad = some (.inr (kd, es))) (e2 : q (ax_set h ad (.inr (kd, es.set i.toNatClampNeg v))) = some (r, h'))
    (hl : lv_has ls nL (ax_m G tv)) (hR : ax_R G h H) (a : cells + h0.1 = h.1) (b : slots + h0.2.1 = h.2.1) (cL : ∀ q ∈ locs, G.2.2.1 ≤ q.base) (c2 : cell.cls = G.2.1 kd) (c3 : cell.vm ≠ .unknown) (c4 : ∀ k, cell.vm ≠ .statics k) (c5 : cell.slots = (es.map (ax_v G)).toArray) :
    ∀ H1 : Heap, H1[ax_ad G ad]? = some (cell.setSlot i.toNatClampNeg (ax_v G v)) → H1.size = H.size → (∀ q, q ≠ ax_ad G ad → H1[q]? = H[q]?) → W p l e (ax_rm d h0) s m args below meth c H1 (locs ++ [⟨ax_ad G ad, i.toNatClampNeg⟩]) cells slots (ax_Q G below s h0 r h') (F0 m (pc + 1) ls (rest.map (ax_v G))) := by
  intro H1 g1 g2 g3
  have hge := (hR.2.2.2.2.2 ad _ hm).1
  have had : ad ≠ 0 := fun q => by
    obtain ⟨es, h⟩ := hge.mp q
    cases h
    exact hk0 rfl
  have hR2 : ax_R G (ax_set h ad (.inr (kd, es.set i.toNatClampNeg v))) H1 := by
    refine hR.set had (fun ⟨es, q⟩ => by cases q; exact hk0 rfl) ⟨_, g1, c2, c3, c4, ?_⟩ g2 g3
    show cell.slots.setIfInBounds i.toNatClampNeg (ax_v G v) = _
    rw [c5, List.setIfInBounds_toArray, ax_mapset]
  refine kk _ r h' e2 H1 _ cells slots ls hl hR2 a b (fun q hq => ?_)
  rcases List.mem_append.mp hq with hq | hq
  · exact cL q hq
  · rw [List.mem_singleton.mp hq]
    exact ax_ad_ge had
theorem ax_stin {es : List ax_T} {i : Int32} {cell : Cell} (hs : cell.slots = (es.map (ax_v G)).toArray) (hi : ¬ (i < 0 ∨ es.length ≤ i.toNatClampNeg)) : ¬ (i < 0 ∨ cell.slots.size ≤ i.toNatClampNeg) := by
  rintro (h | h)
  · exact hi (Or.inl h)
  · rw [hs, List.size_toArray, List.length_map] at h
    exact hi (Or.inr h)
theorem ax_iast (B : ax_B G p s m meth c own cc nL ret) {i v : Int32} (hkd : kd < ax_nk) (hk0 : kd ≠ 0) (hty : ax_kty kd = .int) (hd : decode cc pc = .ok (.iastore, 1)) {q : ax_Hp → ax_O}
    (kk : ∀ h2, ax_W G p l e s m args below meth c nL d h0 (pc + 1) tv rest h2 (q h2)) : ax_W G p l e s m args below meth c nL d h0 pc tv (ax_I v :: ax_I i :: ax_A x :: rest) h ((ax_st h x kd i (ax_I v)).bind q) := by
  intro r h' e1 H locs cells slots ls hl hR a b cL
  obtain ⟨h2, hv, e2⟩ := Option.bind_eq_some_iff.mp e1
  obtain ⟨ad, es, rfl, hm, hi, rfl⟩ := ax_st_spec hv
  obtain ⟨hge, cell, c1, c2, c3, c4, c5⟩ := hR.2.2.2.2.2 ad _ hm
  exact W.iast B.1 B.2.1 c1 (by rw [← hty]; exact ax_isarr B.2.2.2.2.2.2 hkd c2 c4) c3 (ax_stin c5 hi) rfl rfl hd (ax_stgo hk0 kk hm e2 hl hR a b cL c2 c3 c4 c5)
theorem ax_cast (B : ax_B G p s m meth c own cc nL ret) {i v : Int32} (hkd : kd < ax_nk) (hk0 : kd ≠ 0) (hty : ax_kty kd = .char) (hd : decode cc pc = .ok (.castore, 1)) {q : ax_Hp → ax_O}
    (kk : ∀ h2, ax_W G p l e s m args below meth c nL d h0 (pc + 1) tv rest h2 (q h2)) : ax_W G p l e s m args below meth c nL d h0 pc tv (ax_I v :: ax_I i :: ax_A x :: rest) h ((ax_stc h x kd i v).bind q) := by
  intro r h' e1 H locs cells slots ls hl hR a b cL
  obtain ⟨h2, hv, e2⟩ := Option.bind_eq_some_iff.mp e1
  obtain ⟨ad, es, rfl, hm, hi, rfl⟩ := ax_st_spec hv
  obtain ⟨hge, cell, c1, c2, c3, c4, c5⟩ := hR.2.2.2.2.2 ad _ hm
  exact W.cast B.1 B.2.1 c1 (by rw [← hty]; exact ax_isarr B.2.2.2.2.2.2 hkd c2 c4) c3 (ax_stin c5 hi) rfl rfl hd (ax_stgo (v := ax_I (ax_nc v)) hk0 kk hm e2 hl hR a b cL c2 c3 c4 c5)
theorem ax_zast (B : ax_B G p s m meth c own cc nL ret) {i v : Int32} (hkd : kd < ax_nk) (hk0 : kd ≠ 0) (hty : ax_kty kd = .boolean) (hd : decode cc pc = .ok (.bastore, 1)) {q : ax_Hp → ax_O}
    (kk : ∀ h2, ax_W G p l e s m args below meth c nL d h0 (pc + 1) tv rest h2 (q h2)) : ax_W G p l e s m args below meth c nL d h0 pc tv (ax_I v :: ax_I i :: ax_A x :: rest) h ((ax_stz h x kd i v).bind q) := by
  intro r h' e1 H locs cells slots ls hl hR a b cL
  obtain ⟨h2, hv, e2⟩ := Option.bind_eq_some_iff.mp e1
  obtain ⟨ad, es, rfl, hm, hi, rfl⟩ := ax_st_spec hv
  obtain ⟨hge, cell, c1, c2, c3, c4, c5⟩ := hR.2.2.2.2.2 ad _ hm
  exact W.zast B.1 B.2.1 c1 (by rw [← hty]; exact ax_isarr B.2.2.2.2.2.2 hkd c2 c4) c3 (ax_stin c5 hi) rfl rfl hd (ax_stgo (v := ax_I (v &&& 1)) hk0 kk hm e2 hl hR a b cL c2 c3 c4 c5)
theorem ax_last (B : ax_B G p s m meth c own cc nL ret) {i : Int32} {v : Int64} (hkd : kd < ax_nk) (hk0 : kd ≠ 0) (hty : ax_kty kd = .long) (hd : decode cc pc = .ok (.lastore, 1)) {q : ax_Hp → ax_O}
    (kk : ∀ h2, ax_W G p l e s m args below meth c nL d h0 (pc + 1) tv rest h2 (q h2)) : ax_W G p l e s m args below meth c nL d h0 pc tv (ax_L v :: ax_I i :: ax_A x :: rest) h ((ax_st h x kd i (ax_L v)).bind q) := by
  intro r h' e1 H locs cells slots ls hl hR a b cL
  obtain ⟨h2, hv, e2⟩ := Option.bind_eq_some_iff.mp e1
  obtain ⟨ad, es, rfl, hm, hi, rfl⟩ := ax_st_spec hv
  obtain ⟨hge, cell, c1, c2, c3, c4, c5⟩ := hR.2.2.2.2.2 ad _ hm
  exact W.last B.1 B.2.1 c1 (by rw [← hty]; exact ax_isarr B.2.2.2.2.2.2 hkd c2 c4) c3 (ax_stin c5 hi) rfl rfl hd (ax_stgo hk0 kk hm e2 hl hR a b cL c2 c3 c4 c5)
theorem ax_add_spec {n : Nat} {ob : Option ax_Ob} {y : Nat × ax_Hp} (e : ax_add h n ob = some y) : (h.1 + 1 ≤ ax_CM ∧ h.2.1 + n ≤ ax_SM) ∧ y = (h.1 + 1, (h.1 + 1, h.2.1 + n, fun q => if q = h.1 + 1 then ob else h.2.2 q)) := by
  unfold ax_add at e
  by_cases hc : h.1 + 1 ≤ ax_CM ∧ h.2.1 + n ≤ ax_SM
  · rw [if_pos hc] at e
    exact ⟨hc, (Option.some.inj e).symm⟩
  · rw [if_neg hc] at e; cases e
theorem ax_newo (B : ax_B G p s m meth c own cc nL ret) {fs : List ax_T} (hC : ax_Cl ci C T N ty0) (hcl : Cond.classLink own idx C ∈ lw_tbl) (hinst : Cond.instantiable C N ∈ lw_tbl) (hini : Cond.initialized C ∈ lw_tbl) (hlen : fs.length = N) (hfs : ∀ G j, j < N → defaultValue (ty0 j) = vp_V (fs.map (ax_v G)) j) (hd : decode cc pc = .ok (.new idx, 3)) {q : Nat → ax_Hp → ax_O}
    (kk : ∀ a h2, ax_W G p l e s m args below meth c nL d h0 (pc + 3) tv (ax_A (some a) :: rest) h2 (q a h2)) : ax_W G p l e s m args below meth c nL d h0 pc tv rest h (ax_nw (ax_new h ci fs) q) := by
  intro r h' e1 H locs cells slots ls hl hR a b cL
  obtain ⟨y, hv, e2⟩ := Option.bind_eq_some_iff.mp e1
  obtain ⟨⟨hc1, hc2⟩, rfl⟩ := ax_add_spec hv
  have hK := B.2.2.2.2.2.2
  have hts := ax_lays (args := args) hK hC
  have hKn := hK.1.1 ci _ hC.1
  have hsz := ax_ad_new hR
  subst hlen
  refine W.newcK (n := fs.length) B.1 B.2.1 B.2.2.2.2.2.1 (ax_word hK hcl rfl rfl) (ax_word hK hinst rfl rfl) (ax_word hK hini rfl rfl) rfl hd (by show cells + 1 ≤ ax_CM - h0.1; omega) (by show slots + fs.length ≤ ax_SM - h0.2.1; omega) hKn.2.1 rfl fun H1 kC hkC g1 g2 g3 => ?_
  have hR2 := hR.push (n := fs.length) (o := some (.inl (ci, fs))) hc1 hc2 (fun ⟨es, q⟩ => by cases q) (fun z hz => by
    cases hz
    exact ⟨_, hC.1, rfl, by rw [hsz]; exact (u_born ty0 hts (fun _ h => h) hKn hkC g1 hC.2.2.1).to (hfs G)⟩) g2 g3
  have := kk (h.1 + 1) _ r h' e2 H1 locs (cells + 1) (slots + fs.length) ls hl hR2 (by show cells + 1 + h0.1 = h.1 + 1; omega) (by show slots + fs.length + h0.2.1 = h.2.1 + fs.length; omega) cL
  rw [List.map_cons, show ax_v G (ax_A (some (h.1 + 1))) = .ref H.size by rw [← hsz]; rfl] at this
  exact this
theorem ax_na_spec {n : Int32} {dv : ax_T} {y : Nat × ax_Hp} (e : ax_na h kd n dv = some y) : ¬ n < 0 ∧ n.toNatClampNeg ≤ 1000000 ∧ ax_add h n.toNatClampNeg (some (.inr (kd, List.replicate n.toNatClampNeg dv))) = some y := by
  unfold ax_na at e
  by_cases hc : n < 0 ∨ 1000000 < n.toNatClampNeg
  · rw [if_pos hc] at e; cases e
  · rw [if_neg hc] at e
    exact ⟨fun h => hc (Or.inl h), by omega, e⟩
theorem ax_newa (B : ax_B G p s m meth c own cc nL ret) {n : Int32} {atype : ArrayType} {dv : ax_T} (hkd : kd < ax_nk) (hk0 : kd ≠ 0) (hty : newarray.typeOf atype = ax_kty kd) (harr : Cond.arrayClass (newarray.typeOf atype) ∈ lw_tbl) (hpr : (ax_kty kd).isReference = false) (hdv : ∀ G, ax_v G dv = defaultValue (ax_kty kd)) (hcb : componentBytes (ax_kty kd) ≤ 8) (hd : decode cc pc = .ok (.newarray atype, 2)) {q : Nat → ax_Hp → ax_O}
    (kk : ∀ a h2, ax_W G p l e s m args below meth c nL d h0 (pc + 2) tv (ax_A (some a) :: rest) h2 (q a h2)) : ax_W G p l e s m args below meth c nL d h0 pc tv (ax_I n :: rest) h (ax_nw (ax_na h kd n dv) q) := by
  intro r h' e1 H locs cells slots ls hl hR a b cL
  obtain ⟨y, hv, e2⟩ := Option.bind_eq_some_iff.mp e1
  obtain ⟨hn, hbig, hv⟩ := ax_na_spec hv
  obtain ⟨⟨hc1, hc2⟩, rfl⟩ := ax_add_spec hv
  have hK := B.2.2.2.2.2.2
  have hsz := ax_ad_new hR
  have hbytes : n.toNatClampNeg * componentBytes (newarray.typeOf atype) ≤ 536870912 := by
    rw [hty]
    exact Nat.le_trans (Nat.mul_le_mul hbig hcb) (by decide)
  refine W.newa B.1 B.2.1 (ax_arrw hK harr) rfl hd rfl hn hbytes (by show cells + 1 ≤ ax_CM - h0.1; omega) (by show slots + n.toNatClampNeg ≤ ax_SM - h0.2.1; omega) fun cA kA comp f1 f2 f3 => ?_
  have hcA : cA = G.2.1 kd := by
    have h9 := (hK.2.2.1 kd hkd).2 hk0
    have h8 : s.vm.findClass ("[" ++ (ax_kty kd).toString) = some (G.2.1 kd) := by
      generalize ax_kty kd = ty at h9 hpr
      cases ty with
      | object _ => cases hpr
      | _ => exact h9
    rw [← hty] at h8
    exact Option.some.inj (f1.symm.trans h8)
  subst hcA
  have hR2 := hR.push (H1 := H.push { cls := G.2.1 kd, slots := Array.replicate n.toNatClampNeg (defaultValue (newarray.typeOf atype)), vm := .none }) (n := n.toNatClampNeg) (o := some (.inr (kd, List.replicate n.toNatClampNeg dv))) hc1 hc2 (fun ⟨es, q⟩ => by cases q; exact hk0 rfl) (fun z hz => by
    cases hz
    refine ⟨_, by rw [hsz]; exact Array.getElem?_push_size, rfl, (fun q => by cases q), (fun k q => by cases q), ?_⟩
    show Array.replicate n.toNatClampNeg (defaultValue (newarray.typeOf atype)) = _
    rw [hty, ← hdv G]
    simp [List.map_replicate]) (by simp) (fun q hq => by rw [Array.getElem?_push, if_neg (Nat.ne_of_lt hq)])
  have := kk (h.1 + 1) _ r h' e2 _ locs (cells + 1) (slots + n.toNatClampNeg) ls hl hR2 (by show cells + 1 + h0.1 = h.1 + 1; omega) (by show slots + n.toNatClampNeg + h0.2.1 = h.2.1 + n.toNatClampNeg; omega) cL
  rw [List.map_cons, show ax_v G (ax_A (some (h.1 + 1))) = .ref H.size by rw [← hsz]; rfl] at this
  exact this
end AX2
