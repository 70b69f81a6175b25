/-- 'throw new E()' -/
def ax_th (h : ax_Hp) (k : Nat) : ax_O := ax_nw (ax_add h 6 none) fun a h2 => some (.inr (k, a), h2)
def ax_sup : List String := ["java/lang/RuntimeException", "java/lang/Exception"]
/-- what 'throw new E()' asks of the tables -/
def ax_Thr (own : String) (ik ic k : Nat) : Prop := Cond.classLink own ik (ax_exn k) ∈ lw_tbl ∧ Cond.initialized (ax_exn k) ∈ lw_tbl ∧ Bundle.fit (ax_exn k) = true ∧ (∀ w ∈ vx_at0 own ic (ax_exn k) ax_sup, w ∈ lw_tbl) ∧ ∀ w ∈ vx_at0 own ic (ax_exn k) ax_sup, ax_ok w = true ∧ w.onTables = true
section AX6
variable {G : ax_G} {p : Program} {l : Launch} {e : Env} {s : State} {m : MethodId} {args : Array Value} {below : List Frame} {meth : Method} {c : Code} {own : String} {cc : ByteArray} {nL : Nat} {ret : Option FieldType} {d : Nat} {h0 h : ax_Hp} {pc : Nat} {tv : List (Nat × ax_T)} {rest : List ax_T} {o : ax_O}
theorem ax_throw {ik ic k : Nat} (B : ax_B G p s m meth c own cc nL ret) (E : c.exceptionTable.isEmpty = true) (hd8 : 8 ≤ d) (hl : l.stackTraces = false) (hT : ax_Thr own ik ic k) (d0 : decode cc pc = .ok (.new ik, 3)) (d3 : decode cc (pc + 3) = .ok (.dup, 1)) (d4 : decode cc (pc + 4) = .ok (.invokespecial ic, 3)) (d7 : decode cc (pc + 7) = .ok (.athrow, 1)) (hwt : ax_wt rest ≤ 8) :
    ax_W G p l e s m args below meth c nL (d + 1) h0 pc tv rest h (ax_th h k) := by
  intro r h' e1 H locs cells slots ls hlv hR a b cL T hTH X
  obtain ⟨y, hv, e2⟩ := Option.bind_eq_some_iff.mp e1
  obtain ⟨⟨hc1, hc2⟩, rfl⟩ := ax_add_spec hv
  cases e2
  have hK := B.2.2.2.2.2.2
  have hb := B.2.1
  have hexec := B.1
  have hown := B.2.2.2.2.2.1
  have htr : e.platform.stackTraces = false := (show e.platform.stackTraces = l.stackTraces by rw [X.admits.platform]).trans hl
  have Y := vx_rebase X (R' := { frames := (ax_rm (d + 1) h0).frames, locals := (ax_rm (d + 1) h0).locals, cells := 1, slots := 6 }) (Nat.le_refl _) (Nat.le_refl _) (by show cells + 1 ≤ ax_CM - h0.1; omega) (by show slots + 6 ≤ ax_SM - h0.2.1; omega)
  obtain ⟨s', hA⟩ : ∃ z, z = (T.setVm s.vm).setFrames (.invoking m args :: below) := ⟨_, rfl⟩
  rw [← hA] at Y
  have hvm : s'.vm = s.vm := by rw [hA]; rfl
  have hhp : s'.heap = H := by rw [hA]; exact hTH
  have hW0 : s.WarmedH s'.vm := by rw [hvm]; exact State.WarmedH.refl s
  have hK' : ax_K G s' := ax_K.warm hW0 hK
  have hZ := hK'.2.2.2.1 s' (Vm.Alike.refl _) (fun q hq => by rw [hhp]; exact hR.2.2.2.2.1 q hq)
  have hat' : ∀ w ∈ vx_at0 own ic (ax_exn k) ax_sup, w.before args s' = true := fun w hw => ax_word hK' (hT.2.2.2.1 w hw) (hT.2.2.2.2 w hw).1 (hT.2.2.2.2 w hw).2
  have hk' : (Cond.classLink own ik (ax_exn k)).before args s' = true := ax_word hK' hT.1 rfl rfl
  have hini' : (Cond.initialized (ax_exn k)).before args s' = true := ax_word hK' hT.2.1 rfl rfl
  have hw : ∀ w ∈ Bundle.ownAtoms0 own ic (ax_exn k) ax_sup, w.before args s' = true := vx_own hat' (vx_isRefq hZ.1.1) (vx_isRefq hZ.2.1) hZ.1.2.word hZ.2.2.word
  have hown' : s'.vm.findClass own = some m.cls := by rw [hvm]; exact hown
  have hins : (Cond.instantiable (ax_exn k) 6).before args s' = true := hw _ (by simp [Bundle.ownAtoms0])
  have hpc := F0 m pc ls (rest.map (ax_v G))
  obtain ⟨vm₁, cX, kX, hfX, hkX, -, -, X₁, st1⟩ := Y.newCold hexec (own := own) (C := ax_exn k) (index := ik) (n := 6) hown' hk' hins hini'
    (g := F0 m pc ls (rest.map (ax_v G))) rfl (by rw [hb]; exact d0) (Nat.le_refl _) (Nat.le_refl _)
  generalize hT1 : (T.setVm vm₁).pushCell { cls := cX, slots := kX.instanceTypes.map defaultValue, vm := .none } = T1 at X₁ st1
  have hcat : (Value.ref T.heap.size).category = 1 := rfl
  have hcellA : T1.heap[T.heap.size]? = some (freshCell cX kX) := by rw [← hT1]; exact State.heap_pushCell_size _ _
  have d3' : decode c.code (pc + 3) = .ok (.dup, 1) := by rw [hb]; exact d3
  have hout : ∀ z ∈ c.exceptionTable.toList, covers z (pc + 7) = false := fun z hz => by
    have h1 : c.exceptionTable.toList = [] := by simpa using E
    rw [h1] at hz; cases hz
  have hwt2 : ((rest.map (ax_v G)).map fun v => v.category).sum ≤ 8 := by rw [ax_wt_eq]; exact hwt
  obtain ⟨U, hsteps, hrun, hend, hW, hsame, ce, hce, hO⟩ := X₁.ctorThrow0 hexec htr (own := own) (cls := ax_exn k) (names := ax_sup) (ic := ic) hown' hT.2.2.1 (by decide) hw (fun x hx => nomatch hx) hfX hkX hcellA (by rw [hhp, hTH]; exact Nat.le_refl _)
    (g := { method := m, pc := pc + 4, locals := ls, stack := .ref T.heap.size :: .ref T.heap.size :: rest.map (ax_v G), locked := none }) rfl (hlv.1.trans B.2.2.1.symm) rfl rfl (rest := rest.map (ax_v G)) rfl
    (by rw [hb]; exact d4) (by rw [hb]; exact d7) hout (by show 2 + 3 < d + 1; omega) (by
      show 2 * _ + _ + (13 * (2 + 1) + 41) ≤ 60 * (d + 1)
      have hmr : ({ method := m, pc := pc + 4, locals := ls, stack := .ref T.heap.size :: .ref T.heap.size :: rest.map (ax_v G), locked := none } : JFrame).monitorRoom = 0 := rfl
      rw [hmr]
      simp only [List.map_cons, List.sum_cons, hcat]; omega) B.2.2.2.2.1
  obtain ⟨f1, f2⟩ := vx_frame hsame
  rw [hhp] at f1 f2
  have hWs : s.WarmedH U.vm := State.WarmedH.trans hW0 hW
  have hcl : U.vm.findClass (ax_exn k) = some ce.cls := by
    have h9 := hO.cls
    rw [hW.alike.findClass]
    exact h9
  have hsz : U.heap.size = H.size + 1 := by
    have g1 := (Array.getElem?_eq_some_iff.mp hce).1
    have g2 : U.heap.size ≤ s'.heap.size + (0 + 1) := hsame.2.2.1
    rw [hhp] at g2
    rw [hTH] at g1
    omega
  have hall : s.sameButNew ({ U with vm := s.vm } : State) locs (cells + 1) (slots + 6) := by
    subst hA
    obtain ⟨e1, e2⟩ := hsame
    rw [State.setFrames_setFrames] at e1
    have h2 : (T.setVm s.vm).sameButNew ({ U with vm := s.vm } : State) [] (0 + 1) (0 + 6) := ⟨e1, e2⟩
    have h3 := X.same.trans h2
    rw [List.append_nil] at h3
    exact h3.mono (by omega) (by omega)
  have hnew := ax_ad_new hR
  have hR2 := hR.push (H1 := U.heap) (n := 6) (o := none) hc1 hc2 (fun ⟨es, q⟩ => by cases q) (fun z hz => by cases hz) hsz (fun q hq => f2 q hq (fun z hz => nomatch hz))
  refine ⟨U, ?_, .threw T.heap.size, hrun, hend, ⟨by rw [hTH, ← hnew], ⟨ce, by rw [hnew, ← hTH]; exact hce, hO.vm, hcl⟩⟩, hR2, locs, cells + 1, slots + 6, ⟨hWs, hall⟩, (by show cells + 1 + h0.1 = h.1 + 1; omega), (by show slots + 6 + h0.2.1 = h.2.1 + 6; omega), cL⟩
  refine st1 _ ?_
  show Steps p.tables e below (T1.setTop { method := m, pc := pc + 3, locals := ls, stack := .ref T.heap.size :: rest.map (ax_v G), locked := none }) _
  jvm_step X₁.here [X₁.here.top, hexec, d3', Value.category]
  exact hsteps
end AX6
