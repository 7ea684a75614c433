/-! RETURNS -/
section JROWS5
variable {E : EV} {d : Nat} {y : MI} {pc : Nat} {L : List (Option Value)} {st : List Value} {G : GH} {Post : Res → GH → Prop} {a n : Nat}
/-- an end: W ends with MQ -/
theorem j_end {r : Res}
    (hs : ∀ (p : Program) (e : Env) (R : Room) (s : State) (m : MethodId) (args : Array Value) (below : List Frame) (meth : Method) (c : Code) (H : Heap) (locs : List Loc) (cells slots : Nat) (ls : Array Slot), FX E y p s m args meth c → GP E G H → va_S (AR E) s.heap H locs → LV ls y.2.2.1 L →
      W p (eL E) e R s m args below meth c H locs cells slots (vx_MQ below (QR E r G) (XR E r G) args s cells slots (AR E)) (F0 m pc ls st))
    (hp : Post r G) : J E d y pc L st G Post :=
  ⟨r, G, ⟨Nat.le_refl _, Nat.le_refl _, fun p e s m args below meth c H locs ls z0 s0 fx hg hS hl _ _ => hs p e _ s m args below meth c H locs _ _ ls fx hg hS hl⟩, hp⟩
theorem j_iret {v : Int32} (hr : y.2.2.2.1 = some .int) (hd : decode y.2.1 pc = .ok (.ireturn, 1)) (hp : Post (.inl (some (.int v))) G) : J E d y pc L [.int v] G Post :=
  j_end (r := .inl (some (.int v))) (fun _ _ _ _ _ _ _ _ _ _ _ _ _ _ fx hg hS _ => vx_ret (W.iret fx.1 fx.2.1 (fx.2.2.1.trans hr) (fun t ht _ => ⟨⟨_, rfl, rfl⟩, by rw [ht]; exact hg, hS.F ht⟩) hS.2.2 hd fx.2.2.2.2.2.2.1)) hp
theorem j_zret {v : Int32} (hr : y.2.2.2.1 = some .boolean) (hv : v = 0 ∨ v = 1) (hd : decode y.2.1 pc = .ok (.ireturn, 1)) (hp : Post (.inl (some (.int v))) G) : J E d y pc L [.int v] G Post :=
  j_end (r := .inl (some (.int v))) (fun _ _ _ _ _ _ _ _ _ _ _ _ _ _ fx hg hS _ => vx_ret (W.zret fx.1 fx.2.1 (fx.2.2.1.trans hr) (by rcases hv with rfl | rfl <;> rfl) (fun t ht _ => ⟨⟨_, rfl, rfl⟩, by rw [ht]; exact hg, hS.F ht⟩) hS.2.2 hd fx.2.2.2.2.2.2.1)) hp
theorem j_vret (hr : y.2.2.2.1 = none) (hd : decode y.2.1 pc = .ok (.return_, 1)) (hp : Post (.inl none) G) : J E d y pc L [] G Post :=
  j_end (r := .inl none) (fun _ _ _ _ _ _ _ _ _ _ _ _ _ _ fx hg hS _ => vx_ret (W.vret fx.1 fx.2.1 (fx.2.2.1.trans hr) (fun t ht _ => ⟨⟨_, rfl, rfl⟩, by rw [ht]; exact hg, hS.F ht⟩) hS.2.2 hd fx.2.2.2.2.2.2.1)) hp
theorem j_aret {x : Option Nat} {v : Value} {rt : FieldType} (hx : v = va_rf x) (hr : y.2.2.2.1 = some rt) (hrt : (∃ n, rt = .object n) ∨ ∃ t, rt = .array t) (hd : decode y.2.1 pc = .ok (.areturn, 1)) (hp : Post (.inl (some v)) G) : J E d y pc L [v] G Post :=
  j_end (r := .inl (some v)) (fun _ _ _ _ _ _ _ _ _ _ _ _ _ _ fx hg hS _ => vx_ret (W.aret fx.1 fx.2.1 (fx.2.2.1.trans hr) hrt (by subst hx; cases x with | none => exact Or.inl rfl | some x => exact Or.inr ⟨x, rfl⟩) (fun t ht _ => ⟨⟨_, rfl, rfl⟩, by rw [ht]; exact hg, hS.F ht⟩) hS.2.2 hd fx.2.2.2.2.2.2.1)) hp
end JROWS5
/-! THROWS -/
abbrev thN : List String := ["java/lang/RuntimeException", "java/lang/Exception"]
/-- what 'throw new E("text")' stands on: pool places of the class, the text, the constructor -/
def TE (own cls text : String) (ik is ic : Nat) : Prop := Bundle.fit cls = true ∧ (own, is, text) ∈ strL ∧ Cond.classLink own ik cls ∈ gw ∧ Cond.initialized cls ∈ gw ∧ (∀ w ∈ vx_atS own ic cls thN, w ∈ gw ∨ w ∈ decL.map Cond.declares ∨ w ∈ castL.map (fun q => Cond.castable q.1 q.2)) ∧ (∀ w ∈ Cond.classLink own ik cls :: Cond.initialized cls :: vx_atS own ic cls thN, vx_ot w = true)
section THROW
variable {p : Program} {l : Launch} {e : Env} {R : Room} {s : State} {m : MethodId} {args : Array Value} {below : List Frame} {meth : Method} {c : Code} {H : Heap} {locs : List Loc} {cells slots : Nat} {Q : State → Prop}
variable {free : Addr → Prop} {ls : Array Slot} {rest : List Value}
variable {Qc : Array Value → State → Outcome → State → Prop} {XC : String → State → State → Prop}
set_option maxHeartbeats 1000000 in
/-- 'throw new E("text")', where one cell more is known to be made (vx_throwS, with the heap's size at its end) -/
theorem tx_throwS {cc : ByteArray} {pc : Nat} (hexec : p.tables.exec = Jvm.exec) (hb : c.code = cc) (hl : l.stackTraces = false) {own cls text : String} {names : List String} {ik is ic mc ms sa : Nat} {A : Nat → Prop}
    (hown : s.vm.findClass own = some m.cls) (hcls : Bundle.fit cls = true) (hnames : ∀ n ∈ names, Bundle.fit n = true)
    (hk : (Cond.classLink own ik cls).before args s = true) (hini : (Cond.initialized cls).before args s = true) (hstr : vk_R own is text sa s) (hat : ∀ w ∈ vx_atS own ic cls names, w.before args s = true)
    (hgood : ∀ w ∈ Cond.classLink own ik cls :: Cond.initialized cls :: vx_atS own ic cls names, vx_ot w = true)
    (hU : vx_Zq Bundle.tN "UNASSIGNED_STACK" Bundle.steD A s s.heap) (hN : vx_Zq Bundle.tN "SUPPRESSED_SENTINEL" Bundle.listD A s s.heap) (hS : va_S A s.heap H locs) (hsize : ls.size = c.maxLocals)
    (d0 : decode cc pc = .ok (.new ik, 3)) (d3 : decode cc (pc + 3) = .ok (.dup, 1)) (d4 : decode cc (pc + 4) = .ok (.ldc is, 2)) (d6 : decode cc (pc + 6) = .ok (.invokespecial ic, 3)) (d9 : decode cc (pc + 9) = .ok (.athrow, 1))
    (hout : ∀ x ∈ c.exceptionTable.toList, covers x (pc + 9) = false)
    (hRframes : names.length + 3 < R.frames) (hRlocals : (rest.map fun v => v.category).sum + (13 * (names.length + 1) + 43) ≤ R.locals) (hRcells : cells + 1 ≤ R.cells) (hRslots : slots + 6 ≤ R.slots) (hlocks : meth.locks = false)
    (hx : ∀ t : State, s.vm.Alike t.vm → t.heap.size = H.size + 1 → (∀ q : Nat, q < H.size → t.heap[q]? = H[q]?) → XC cls s t)
    (hf : ∀ z ∈ locs, free z.base) (hc : cells + 1 ≤ mc) (hs : slots + 6 ≤ ms) :
    W p l e R s m args below meth c H locs cells slots (vx_MQ below Qc XC args s mc ms free) (F0 m pc ls rest) := by
  intro T hT X
  have htr : e.platform.stackTraces = false := (show e.platform.stackTraces = l.stackTraces by rw [X.admits.platform]).trans hl
  have Y := vx_rebase X (R' := { frames := R.frames, locals := R.locals, cells := 1, slots := 6 }) (Nat.le_refl _) (Nat.le_refl _) hRcells hRslots
  obtain ⟨s', hA⟩ : ∃ z, z = (T.setVm s.vm).setFrames (.invoking m args :: below) := ⟨_, rfl⟩
  rw [← hA] at Y
  have hvm : s'.vm = s.vm := by rw [hA]; rfl
  have hhp : s'.heap = H := by rw [hA]; exact hT
  have hW0 : s.WarmedH s'.vm := by rw [hvm]; exact State.WarmedH.refl s
  have hat' : ∀ w ∈ vx_atS own ic cls names, w.before args s' = true := fun w hw => vx_ot_at hW0 hvm.symm (hgood w (List.mem_cons_of_mem _ (List.mem_cons_of_mem _ hw))) (hat w hw)
  have hk' : (Cond.classLink own ik cls).before args s' = true := vx_ot_at hW0 hvm.symm (hgood _ List.mem_cons_self) hk
  have hini' : (Cond.initialized cls).before args s' = true := vx_ot_at hW0 hvm.symm (hgood _ (List.mem_cons_of_mem _ List.mem_cons_self)) hini
  have hU' : vx_Zq Bundle.tN "UNASSIGNED_STACK" Bundle.steD A s' s'.heap := by rw [hhp]; exact vx_Zq.moved hW0.alike (hU.kept hS.2.1)
  have hN' : vx_Zq Bundle.tN "SUPPRESSED_SENTINEL" Bundle.listD A s' s'.heap := by rw [hhp]; exact vx_Zq.moved hW0.alike (hN.kept hS.2.1)
  have h : ∀ w ∈ Bundle.ownAtoms own ic cls names, w.before args s' = true := vx_own hat' (vx_isRefq hU'.1) (vx_isRefq hN'.1) hU'.2.word hN'.2.word
  have hown' : s'.vm.findClass own = some m.cls := by rw [hvm]; exact hown
  have hins : (Cond.instantiable cls 6).before args s' = true := h _ (by simp [Bundle.ownAtoms])
  obtain ⟨vm₁, cX, kX, hfX, hkX, -, -, X₁, st1⟩ := Y.newCold hexec (own := own) (C := cls) (index := ik) (n := 6) hown' hk' hins hini'
    (g := F0 m pc ls rest) rfl (by rw [hb]; exact d0) (Nat.le_refl _) (Nat.le_refl _)
  generalize hT1 : (T.setVm vm₁).pushCell { cls := cX, slots := kX.instanceTypes.map defaultValue, vm := .none } = T1 at X₁ st1
  have hcat : (Value.ref T.heap.size).category = 1 := rfl
  have hcellA : T1.heap[T.heap.size]? = some (freshCell cX kX) := by rw [← hT1]; exact State.heap_pushCell_size _ _
  have d3' : decode c.code (pc + 3) = .ok (.dup, 1) := by rw [hb]; exact d3
  have d4' : decode c.code (pc + 4) = .ok (.ldc is, 2) := by rw [hb]; exact d4
  have hstr' : vk_R own is text sa s' := vk_R.warm hW0 hstr
  obtain ⟨U, hsteps, hrun, hend, hW, hsame, ce, hce, hO⟩ := X₁.ctorThrowS hexec htr (own := own) (cls := cls) (names := names) (ic := ic) hown' hcls hnames h (fun x hx => nomatch hx) hfX hkX hcellA (by rw [hhp, hT]; exact Nat.le_refl _) (msg := .ref sa) rfl
    (g := { method := m, pc := pc + 6, locals := ls, stack := .ref sa :: .ref T.heap.size :: .ref T.heap.size :: rest, locked := none }) rfl hsize rfl rfl (rest := rest) rfl
    (by rw [hb]; exact d6) (by rw [hb]; exact d9) hout hRframes (by simp only [List.map_cons, List.sum_cons, hcat]; omega) hlocks
  obtain ⟨f1, f2⟩ := vx_frame hsame
  have f3 : U.heap.size ≤ s'.heap.size + (0 + 1) := hsame.2.2.1
  rw [hhp] at f1 f2 f3
  have f4 : T.heap.size < U.heap.size := (Array.getElem?_eq_some_iff.mp hce).1
  have f5 : U.heap.size = H.size + 1 := by rw [hT] at f4; omega
  have hWs : s.WarmedH U.vm := State.WarmedH.trans hW0 hW
  have hcl : s.vm.findClass cls = some ce.cls := by
    have h9 := hO.cls
    rw [hvm] at h9
    exact h9
  have hall : s.sameButNew ({ U with vm := s.vm } : State) locs mc ms := by
    subst hA
    obtain ⟨e1, e2⟩ := hsame
    rw [State.setFrames_setFrames] at e1
    have h2 : (T.setVm s.vm).sameButNew ({ U with vm := s.vm } : State) [] (0 + 1) (0 + 6) := ⟨e1, e2⟩
    have h3 := X.same.trans h2
    rw [List.append_nil] at h3
    exact h3.mono hc hs
  refine ⟨U, ?_, .threw T.heap.size, hrun, hend, Or.inr ⟨T.heap.size, rfl, cls, ce, locs, hx U hWs.alike f5 (fun q hq => f2 q hq (fun z hz => nomatch hz)), hce, hO.vm, hcl, hWs, hall, hf⟩⟩
  refine st1 _ ?_
  show Steps p.tables e below (T1.setTop { method := m, pc := pc + 3, locals := ls, stack := .ref T.heap.size :: rest, locked := none }) _
  jvm_step X₁.here [X₁.here.top, hexec, d3', Value.category]
  exact X₁.ldcString hexec (own := own) (text := text) (index := is) (a := sa) hown' hstr'.1 hstr'.2
    (g := { method := m, pc := pc + 4, locals := ls, stack := .ref T.heap.size :: .ref T.heap.size :: rest, locked := none }) rfl d4' _ hsteps
set_option maxHeartbeats 1000000 in
/-- 'throw new E("text")', where one cell more is known to be made (vx_throwS, with the heap's size at its end) -/
theorem tx_throwSW {cc : ByteArray} {pc : Nat} (hexec : p.tables.exec = Jvm.exec) (hb : c.code = cc) (hl : l.stackTraces = false) {own cls text : String} {names : List String} {ik is ic mc ms sa : Nat} {A : Nat → Prop}
    (hown : s.vm.findClass own = some m.cls) (hcls : Bundle.fit cls = true) (hnames : ∀ n ∈ names, Bundle.fit n = true)
    (hk : (Cond.classLink own ik cls).before args s = true) (hini : (Cond.initialized cls).before args s = true) (hstr : vk_R own is text sa s) (hat : ∀ w ∈ vx_atS own ic cls names, w.before args s = true)
    (hgood : ∀ w ∈ Cond.classLink own ik cls :: Cond.initialized cls :: vx_atS own ic cls names, vx_ot w = true)
    (hU : vx_Zq Bundle.tN "UNASSIGNED_STACK" Bundle.steD A s s.heap) (hN : vx_Zq Bundle.tN "SUPPRESSED_SENTINEL" Bundle.listD A s s.heap) (hS : va_S A s.heap H locs) (hsize : ls.size = c.maxLocals)
    (d0 : decode cc pc = .ok (.new ik, 3)) (d3 : decode cc (pc + 3) = .ok (.dup, 1)) (d4 : decode cc (pc + 4) = .ok (.ldc_w is, 3)) (d7 : decode cc (pc + 7) = .ok (.invokespecial ic, 3)) (d10 : decode cc (pc + 10) = .ok (.athrow, 1))
    (hout : ∀ x ∈ c.exceptionTable.toList, covers x (pc + 10) = false)
    (hRframes : names.length + 3 < R.frames) (hRlocals : (rest.map fun v => v.category).sum + (13 * (names.length + 1) + 43) ≤ R.locals) (hRcells : cells + 1 ≤ R.cells) (hRslots : slots + 6 ≤ R.slots) (hlocks : meth.locks = false)
    (hx : ∀ t : State, s.vm.Alike t.vm → t.heap.size = H.size + 1 → (∀ q : Nat, q < H.size → t.heap[q]? = H[q]?) → XC cls s t)
    (hf : ∀ z ∈ locs, free z.base) (hc : cells + 1 ≤ mc) (hs : slots + 6 ≤ ms) :
    W p l e R s m args below meth c H locs cells slots (vx_MQ below Qc XC args s mc ms free) (F0 m pc ls rest) := by
  intro T hT X
  have htr : e.platform.stackTraces = false := (show e.platform.stackTraces = l.stackTraces by rw [X.admits.platform]).trans hl
  have Y := vx_rebase X (R' := { frames := R.frames, locals := R.locals, cells := 1, slots := 6 }) (Nat.le_refl _) (Nat.le_refl _) hRcells hRslots
  obtain ⟨s', hA⟩ : ∃ z, z = (T.setVm s.vm).setFrames (.invoking m args :: below) := ⟨_, rfl⟩
  rw [← hA] at Y
  have hvm : s'.vm = s.vm := by rw [hA]; rfl
  have hhp : s'.heap = H := by rw [hA]; exact hT
  have hW0 : s.WarmedH s'.vm := by rw [hvm]; exact State.WarmedH.refl s
  have hat' : ∀ w ∈ vx_atS own ic cls names, w.before args s' = true := fun w hw => vx_ot_at hW0 hvm.symm (hgood w (List.mem_cons_of_mem _ (List.mem_cons_of_mem _ hw))) (hat w hw)
  have hk' : (Cond.classLink own ik cls).before args s' = true := vx_ot_at hW0 hvm.symm (hgood _ List.mem_cons_self) hk
  have hini' : (Cond.initialized cls).before args s' = true := vx_ot_at hW0 hvm.symm (hgood _ (List.mem_cons_of_mem _ List.mem_cons_self)) hini
  have hU' : vx_Zq Bundle.tN "UNASSIGNED_STACK" Bundle.steD A s' s'.heap := by rw [hhp]; exact vx_Zq.moved hW0.alike (hU.kept hS.2.1)
  have hN' : vx_Zq Bundle.tN "SUPPRESSED_SENTINEL" Bundle.listD A s' s'.heap := by rw [hhp]; exact vx_Zq.moved hW0.alike (hN.kept hS.2.1)
  have h : ∀ w ∈ Bundle.ownAtoms own ic cls names, w.before args s' = true := vx_own hat' (vx_isRefq hU'.1) (vx_isRefq hN'.1) hU'.2.word hN'.2.word
  have hown' : s'.vm.findClass own = some m.cls := by rw [hvm]; exact hown
  have hins : (Cond.instantiable cls 6).before args s' = true := h _ (by simp [Bundle.ownAtoms])
  obtain ⟨vm₁, cX, kX, hfX, hkX, -, -, X₁, st1⟩ := Y.newCold hexec (own := own) (C := cls) (index := ik) (n := 6) hown' hk' hins hini'
    (g := F0 m pc ls rest) rfl (by rw [hb]; exact d0) (Nat.le_refl _) (Nat.le_refl _)
  generalize hT1 : (T.setVm vm₁).pushCell { cls := cX, slots := kX.instanceTypes.map defaultValue, vm := .none } = T1 at X₁ st1
  have hcat : (Value.ref T.heap.size).category = 1 := rfl
  have hcellA : T1.heap[T.heap.size]? = some (freshCell cX kX) := by rw [← hT1]; exact State.heap_pushCell_size _ _
  have d3' : decode c.code (pc + 3) = .ok (.dup, 1) := by rw [hb]; exact d3
  have d4' : decode c.code (pc + 4) = .ok (.ldc_w is, 3) := by rw [hb]; exact d4
  have hstr' : vk_R own is text sa s' := vk_R.warm hW0 hstr
  obtain ⟨U, hsteps, hrun, hend, hW, hsame, ce, hce, hO⟩ := X₁.ctorThrowS hexec htr (own := own) (cls := cls) (names := names) (ic := ic) hown' hcls hnames h (fun x hx => nomatch hx) hfX hkX hcellA (by rw [hhp, hT]; exact Nat.le_refl _) (msg := .ref sa) rfl
    (g := { method := m, pc := pc + 7, locals := ls, stack := .ref sa :: .ref T.heap.size :: .ref T.heap.size :: rest, locked := none }) rfl hsize rfl rfl (rest := rest) rfl
    (by rw [hb]; exact d7) (by rw [hb]; exact d10) hout hRframes (by simp only [List.map_cons, List.sum_cons, hcat]; omega) hlocks
  obtain ⟨f1, f2⟩ := vx_frame hsame
  have f3 : U.heap.size ≤ s'.heap.size + (0 + 1) := hsame.2.2.1
  rw [hhp] at f1 f2 f3
  have f4 : T.heap.size < U.heap.size := (Array.getElem?_eq_some_iff.mp hce).1
  have f5 : U.heap.size = H.size + 1 := by rw [hT] at f4; omega
  have hWs : s.WarmedH U.vm := State.WarmedH.trans hW0 hW
  have hcl : s.vm.findClass cls = some ce.cls := by
    have h9 := hO.cls
    rw [hvm] at h9
    exact h9
  have hall : s.sameButNew ({ U with vm := s.vm } : State) locs mc ms := by
    subst hA
    obtain ⟨e1, e2⟩ := hsame
    rw [State.setFrames_setFrames] at e1
    have h2 : (T.setVm s.vm).sameButNew ({ U with vm := s.vm } : State) [] (0 + 1) (0 + 6) := ⟨e1, e2⟩
    have h3 := X.same.trans h2
    rw [List.append_nil] at h3
    exact h3.mono hc hs
  refine ⟨U, ?_, .threw T.heap.size, hrun, hend, Or.inr ⟨T.heap.size, rfl, cls, ce, locs, hx U hWs.alike f5 (fun q hq => f2 q hq (fun z hz => nomatch hz)), hce, hO.vm, hcl, hWs, hall, hf⟩⟩
  refine st1 _ ?_
  show Steps p.tables e below (T1.setTop { method := m, pc := pc + 3, locals := ls, stack := .ref T.heap.size :: rest, locked := none }) _
  jvm_step X₁.here [X₁.here.top, hexec, d3', Value.category]
  exact X₁.ldcStringW hexec (own := own) (text := text) (index := is) (a := sa) hown' hstr'.1 hstr'.2
    (g := { method := m, pc := pc + 4, locals := ls, stack := .ref T.heap.size :: .ref T.heap.size :: rest, locked := none }) rfl d4' _ hsteps
end THROW
/-- 'throw new E("text")' in a method without a table -/
theorem j_throw {E : EV} {d : Nat} {y : MI} {pc : Nat} {L : List (Option Value)} {st : List Value} {G : GH} {Post : Res → GH → Prop} {cls text : String} {ik is ic : Nat} (te : TE y.1.cls cls text ik is ic) (hh : y.2.2.2.2 = [])
    (d0 : decode y.2.1 pc = .ok (.new ik, 3)) (d3 : decode y.2.1 (pc + 3) = .ok (.dup, 1)) (d4 : decode y.2.1 (pc + 4) = .ok (.ldc is, 2)) (d6 : decode y.2.1 (pc + 6) = .ok (.invokespecial ic, 3)) (d9 : decode y.2.1 (pc + 9) = .ok (.athrow, 1))
    (hst : (st.map fun v => v.category).sum ≤ 100) (hp : Post (.inr cls) (bump G 1 6)) : J E d y pc L st G Post := by
  obtain ⟨t1, t2, t3, t4, t5, t6⟩ := te
  refine ⟨.inr cls, bump G 1 6, ⟨Nat.le_succ _, Nat.le_add_right _ _, ?_⟩, hp⟩
  intro p e s m args below meth c H locs ls z0 s0 fx hg hS hl hz hsl
  have hK := fx.2.2.2.2.2.2.2.2.2.1
  have hKH := fx.2.2.2.2.2.2.2.2.2.2
  obtain ⟨sa, hsa⟩ := hK.2.2.2.2.2.1 _ t2
  have e1 : gz (bump G 1 6) = gz G + 1 := rfl
  have e2 : gs (bump G 1 6) = gs G + 6 := rfl
  refine tx_throwS (names := thN) (A := AR E) fx.1 fx.2.1 hK.1 fx.2.2.2.2.1 t1 (by decide) (fx.2.2.2.2.2.1 _ t3) (fx.2.2.2.2.2.1 _ t4) hsa (fun w hw => ?_) t6 hKH.2.1 hKH.2.2 hS (hl.1.trans fx.2.2.2.1.symm) d0 d3 d4 d6 d9 (by rw [fx.2.2.2.2.2.2.2.2.1, hh]; intro x hx; cases hx) (by show 2 + 3 < 20 + d; omega) (by show _ + (13 * (2 + 1) + 43) ≤ 400 + 40 * d; omega) (by show gz G - z0 + 1 ≤ gz (bump G 1 6) - z0; rw [e1]; omega) (by show gs G - s0 + 6 ≤ gs (bump G 1 6) - s0; rw [e2]; omega) fx.2.2.2.2.2.2.1 (fun t _ h1 h2 => ⟨rfl, hg.bmp h1 h2, ?_⟩) hS.2.2 (by rw [e1]; omega) (by rw [e2]; omega)
  · rcases t5 w hw with h | h
    · exact fx.2.2.2.2.2.1 _ h
    · rcases h with h | h
      · obtain ⟨x, hx, rfl⟩ := List.mem_map.mp h
        exact va_Nw.use rfl (hK.2.2.2.1 x hx)
      · obtain ⟨x, hx, rfl⟩ := List.mem_map.mp h
        exact va_Nw.use rfl (hK.2.2.2.2.1 x hx)
  · have h3 := va_S_more hS (Nat.le_of_lt (by rw [h1]; exact Nat.lt_succ_self _)) h2
    exact ⟨h3.1, h3.2.1⟩
/-- 'throw new E("text")' in a method without a table, the text by a wide index -/
theorem j_throwW {E : EV} {d : Nat} {y : MI} {pc : Nat} {L : List (Option Value)} {st : List Value} {G : GH} {Post : Res → GH → Prop} {cls text : String} {ik is ic : Nat} (te : TE y.1.cls cls text ik is ic) (hh : y.2.2.2.2 = [])
    (d0 : decode y.2.1 pc = .ok (.new ik, 3)) (d3 : decode y.2.1 (pc + 3) = .ok (.dup, 1)) (d4 : decode y.2.1 (pc + 4) = .ok (.ldc_w is, 3)) (d6 : decode y.2.1 (pc + 7) = .ok (.invokespecial ic, 3)) (d9 : decode y.2.1 (pc + 10) = .ok (.athrow, 1))
    (hst : (st.map fun v => v.category).sum ≤ 100) (hp : Post (.inr cls) (bump G 1 6)) : J E d y pc L st G Post := by
  obtain ⟨t1, t2, t3, t4, t5, t6⟩ := te
  refine ⟨.inr cls, bump G 1 6, ⟨Nat.le_succ _, Nat.le_add_right _ _, ?_⟩, hp⟩
  intro p e s m args below meth c H locs ls z0 s0 fx hg hS hl hz hsl
  have hK := fx.2.2.2.2.2.2.2.2.2.1
  have hKH := fx.2.2.2.2.2.2.2.2.2.2
  obtain ⟨sa, hsa⟩ := hK.2.2.2.2.2.1 _ t2
  have e1 : gz (bump G 1 6) = gz G + 1 := rfl
  have e2 : gs (bump G 1 6) = gs G + 6 := rfl
  refine tx_throwSW (names := thN) (A := AR E) fx.1 fx.2.1 hK.1 fx.2.2.2.2.1 t1 (by decide) (fx.2.2.2.2.2.1 _ t3) (fx.2.2.2.2.2.1 _ t4) hsa (fun w hw => ?_) t6 hKH.2.1 hKH.2.2 hS (hl.1.trans fx.2.2.2.1.symm) d0 d3 d4 d6 d9 (by rw [fx.2.2.2.2.2.2.2.2.1, hh]; intro x hx; cases hx) (by show 2 + 3 < 20 + d; omega) (by show _ + (13 * (2 + 1) + 43) ≤ 400 + 40 * d; omega) (by show gz G - z0 + 1 ≤ gz (bump G 1 6) - z0; rw [e1]; omega) (by show gs G - s0 + 6 ≤ gs (bump G 1 6) - s0; rw [e2]; omega) fx.2.2.2.2.2.2.1 (fun t _ h1 h2 => ⟨rfl, hg.bmp h1 h2, ?_⟩) hS.2.2 (by rw [e1]; omega) (by rw [e2]; omega)
  · rcases t5 w hw with h | h
    · exact fx.2.2.2.2.2.1 _ h
    · rcases h with h | h
      · obtain ⟨x, hx, rfl⟩ := List.mem_map.mp h
        exact va_Nw.use rfl (hK.2.2.2.1 x hx)
      · obtain ⟨x, hx, rfl⟩ := List.mem_map.mp h
        exact va_Nw.use rfl (hK.2.2.2.2.1 x hx)
  · have h3 := va_S_more hS (Nat.le_of_lt (by rw [h1]; exact Nat.lt_succ_self _)) h2
    exact ⟨h3.1, h3.2.1⟩
/-! THE METHOD'S ENTRY -/
def ME (y : MI) : Prop := plainName y.1.cls = true ∧ cwd y ∈ gw ∧ Cond.initialized y.1.cls ∈ gw ∧ y.1.cls ≠ "java/lang/invoke/MethodHandle" ∧ y.1.cls ≠ "java/lang/invoke/VarHandle"
def entryL (nL : Nat) (args : List Value) : List (Option Value) := args.map some ++ List.replicate (nL - args.length) none
theorem lv_args_1 : ∀ (vs : List Value) (k : Nat), (∀ v ∈ vs, v.category = 1) → lg_sl vs = vs.map Slot.val ∧ True
  | [], _, _ => ⟨rfl, trivial⟩
  | v :: vs, k, h => ⟨by
      have h1 := (lv_args_1 vs k (fun w hw => h w (List.mem_cons_of_mem _ hw))).1
      show (if v.category = 2 then _ else _) ++ lg_sl vs = _
      rw [h v List.mem_cons_self, h1]
      rfl, trivial⟩
theorem lv_wf_1 {vs : List Value} {n : Nat} (h : ∀ v ∈ vs, v.category = 1) : lv_wf (vs.map Slot.val ++ List.replicate n Slot.unset).toArray := by
  have key : ∀ (i : Nat), (vs.map Slot.val ++ List.replicate n Slot.unset).toArray[i]? = some Slot.second → False := by
    intro i hi
    rw [List.getElem?_toArray] at hi
    rcases List.mem_append.mp (List.mem_of_getElem? hi) with h1 | h1
    · obtain ⟨v, -, hv⟩ := List.mem_map.mp h1
      cases hv
    · cases List.eq_of_mem_replicate h1
  refine ⟨fun i v hi hv => ?_, fun i hi => absurd hi (fun z => key i z)⟩
  rw [List.getElem?_toArray] at hi
  rcases List.mem_append.mp (List.mem_of_getElem? hi) with h1 | h1
  · obtain ⟨w, hw, hv'⟩ := List.mem_map.mp h1
    cases hv'
    rw [h v hw] at hv
    cases hv
  · cases List.eq_of_mem_replicate h1
theorem LV.entry {args : List Value} {nL : Nat} (h : ∀ v ∈ args, v.category = 1) (hn : args.length ≤ nL) : LV ((lg_sl args ++ List.replicate (nL - (lg_sl args).length) Slot.unset).toArray) nL (entryL nL args) := by
  rw [(lv_args_1 args 0 h).1, List.length_map]
  refine ⟨by simp; omega, by simp [entryL]; omega, lv_wf_1 h, fun i v hi => ?_⟩
  unfold entryL at hi
  rw [List.getElem?_toArray]
  by_cases hl : i < args.length
  · rw [List.getElem?_append_left (by rw [List.length_map]; exact hl), List.getElem?_map, List.getElem?_eq_getElem hl] at hi
    cases hi
    refine ⟨?_, h _ (List.getElem_mem hl)⟩
    rw [List.getElem?_append_left (by rw [List.length_map]; exact hl), List.getElem?_map, List.getElem?_eq_getElem hl]
    rfl
  · rw [List.getElem?_append_right (by rw [List.length_map]; omega)] at hi
    have h2 := List.mem_of_getElem? hi
    cases List.eq_of_mem_replicate h2
theorem j_enter {E : EV} {d : Nat} {y : MI} {args : List Value} {G : GH} {Post : Res → GH → Prop} {L : List (Option Value)} (me : ME y) (ha : ∀ v ∈ args, v.category = 1) (hn : args.length ≤ y.2.2.1) (hL : entryL y.2.2.1 args = L) (k : J E d y 0 L [] G Post) : Cl E d y args G Post := by
  subst hL
  obtain ⟨r, G', ⟨h1, h2, h3⟩, hp⟩ := k
  refine ⟨r, G', ⟨h1, h2, ?_⟩, hp⟩
  obtain ⟨m1, m2, m3, m4, m5⟩ := me
  obtain ⟨y1, y2, y3, y4, hh⟩ := y
  have key : ∀ (p : Program) (e : Env) (s : State) (m : MethodId) (args9 : Array Value) (below : List Frame) (meth : Method) (c : Code) (s₁ : State), BodyLoose p (eL E) y1 (headSpec (wsM (y1, y2, y3, y4, hh)) (rmD d (gz G' - gz G) (gs G' - gs G))) y2 y3 y4 e s m args9 below meth c s₁ → c.maxLocals = y3 → c.exceptionTable.toList = tableOf hh → va_Pc args (fun U => KS E U ∧ KH E U U.heap ∧ GP E G U.heap) args9 s →
      W p (eL E) e (headSpec (wsM (y1, y2, y3, y4, hh)) (rmD d (gz G' - gz G) (gs G' - gs G))).room s m args9 below meth c s.heap [] 0 0 (vx_MQ below (QR E r G') (XR E r G') args9 s (gz G' - gz G) (gs G' - gs G) (AR E)) (entryFrame m args9 y3) := by
    intro p e s m args9 below meth c s₁ B hml ht hv
    obtain ⟨rfl, hK, hKH, hg⟩ := hv
    have hts := atoms_spec (ws := wsM (y1, y2, y3, y4, hh)) B.pre
    rw [lg_entry_eq]
    have h4 := h3 p e s m args.toArray below meth c s.heap [] _ (gz G) (gs G) ⟨B.exec, B.bytes, B.returns, hml, findClass_of_methodNamed B.named, fun w hw => hts w (List.mem_cons_of_mem _ hw), B.notSynchronized, (name_of_methodNamed B.named B.method).1, ht, hK, hKH⟩ hg va_S.rf (LV.entry ha hn) (Nat.le_refl _) (Nat.le_refl _)
    rw [Nat.sub_self, Nat.sub_self] at h4
    exact h4
  cases hh with
  | nil =>
    exact vx_ofW (cc := y2) (maxL := y3) (ret := y4) m1 rfl (fun p e s m args9 below meth c s₁ B hml ht hv => key p e s m args9 below meth c s₁ B hml (List.eq_nil_iff_forall_not_mem.mpr ht) hv)
  | cons q qs =>
    exact vx_ofWH (cc := y2) (maxL := y3) (ret := y4) (hh := q :: qs) m1 rfl (fun p e s m args9 below meth c s₁ B hml hv => key p e s m args9 below meth c s₁ B hml (vx_table (x := y1) B (atoms_spec (ws := wsM (y1, y2, y3, y4, q :: qs)) B.pre _ List.mem_cons_self)) hv)
