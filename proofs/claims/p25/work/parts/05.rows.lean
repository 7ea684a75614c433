/-! THE JUDGEMENTS -/
abbrev tysE (E : EV) : List (ClassId × FieldType) := [(eA E 20, .int), (eA E 21, .boolean), (eA E 22, .int), (eA E 23, .object "java/lang/Object"), (eA E 24, .object "SnowmeltStreams$Source")]
/-- what the tables say at any time -/
def KS (E : EV) (U : State) : Prop := (eL E).stackTraces = false ∧ va_K (eD E) kcl (tysE E) U ∧ (∀ q ∈ nestL, va_Nw (.methodLinkNest q.1 q.2.1 q.2.2.1 q.2.2.2) U) ∧ (∀ x ∈ decL, va_Nw (.declares x) U) ∧ (∀ q ∈ castL, va_Nw (.castable q.1 q.2) U) ∧ (∀ q ∈ strL, ∃ sa : Nat, vk_R q.1 q.2.1 q.2.2 sa U) ∧ (∀ q ∈ ncL, va_Nc q.1 q.2 U) ∧ va_AO "java/lang/Object" U ∧ (va_AO "SnowmeltStreams$Source" U ∧ ArrOfT U (eA E 25) .int) ∧ va_Mi "[Ljava/lang/Object;" (eM E) U
theorem KS.warm {E : EV} {s U : State} (hW : s.WarmedH U.vm) (h : KS E s) : KS E U := by
  obtain ⟨h0, h1, h2, h3, h4, h5, h6, h7, h8, h9⟩ := h
  exact ⟨h0, va_K.moved hW.alike h1, fun q hq => va_Nw.warmM hW (h2 q hq), fun x hx => va_Nw.warmD hW (h3 x hx), fun q hq => va_Nw.warmC hW (h4 q hq), fun q hq => by obtain ⟨sa, h⟩ := h5 q hq; exact ⟨sa, vk_R.warm hW h⟩, fun q hq => va_Nc.moved hW.alike (h6 q hq), va_AO.moved hW.alike h7, ⟨va_AO.moved hW.alike h8.1, arrOfT_moved hW.alike h8.2⟩, va_Mi.moved hW.alike h9⟩
abbrev AR (E : EV) : Nat → Prop := fun q => eB E ≤ q
/-- the statics that the heap holds below the ghost heap -/
def KH (E : EV) (U : State) (H : Heap) : Prop := va_Z "java/util/ArrayList" "DEFAULTCAPACITY_EMPTY_ELEMENTDATA" "[Ljava/lang/Object;" (.ref (eC E)) (AR E) U H ∧ vx_Zq Bundle.tN "UNASSIGNED_STACK" Bundle.steD (AR E) U H ∧ vx_Zq Bundle.tN "SUPPRESSED_SENTINEL" Bundle.listD (AR E) U H
theorem KH.move {E : EV} {s U : State} {H H' : Heap} (hvm : s.vm.Alike U.vm) (hq : ∀ a : Nat, a < H.size → ¬ AR E a → H'[a]? = H[a]?) (h : KH E s H) : KH E U H' := ⟨va_Z.moved hvm (va_Z.kept h.1 hq), vx_Zq.moved hvm (vx_Zq.kept h.2.1 hq), vx_Zq.moved hvm (vx_Zq.kept h.2.2 hq)⟩
/-- a method's answer: a value or none, or the class of an exception -/
abbrev Res : Type := Option Value ⊕ String
def QR (E : EV) (r : Res) (G' : GH) : Array Value → State → Outcome → State → Prop := fun _ st o t => (∃ v, r = .inl v ∧ o = .returned v) ∧ GP E G' t.heap ∧ va_F (AR E) st t
def XR (E : EV) (r : Res) (G' : GH) : String → State → State → Prop := fun X st t => r = .inr X ∧ GP E G' t.heap ∧ va_F (AR E) st t
abbrev rmD (d k n : Nat) : Room := { frames := 20 + d, cells := k, slots := n, locals := 400 + 40 * d }
/-- locals: a list of what is known -/
def LV (ls : Array Slot) (nL : Nat) (L : List (Option Value)) : Prop := ls.size = nL ∧ L.length = nL ∧ lv_wf ls ∧ ∀ (i : Nat) (v : Value), L[i]? = some (some v) → ls[i]? = some (.val v) ∧ v.category = 1
def prsOf (L : List (Option Value)) : List (Nat × Value) := (List.range L.length).filterMap (fun i => (L.getD i none).map (fun v => (i, v)))
theorem prs_mem {L : List (Option Value)} {i : Nat} {v : Value} : (i, v) ∈ prsOf L ↔ L[i]? = some (some v) := by
  unfold prsOf
  rw [List.mem_filterMap]
  constructor
  · rintro ⟨j, hj, h⟩
    have hj := List.mem_range.mp hj
    rw [List.getD_eq_getElem?_getD, List.getElem?_eq_getElem hj] at h
    rw [Option.getD_some] at h
    cases hx : L[j] with
    | none => rw [hx] at h; cases h
    | some w =>
      rw [hx] at h
      cases h
      rw [List.getElem?_eq_getElem hj, hx]
  · intro h
    have hl : i < L.length := (List.getElem?_eq_some_iff.mp h).1
    refine ⟨i, List.mem_range.mpr hl, ?_⟩
    rw [List.getD_eq_getElem?_getD, h]
    rfl
theorem LV.has {ls : Array Slot} {nL : Nat} {L : List (Option Value)} (h : LV ls nL L) : lv_has ls nL (prsOf L) := ⟨h.1, h.2.2.1, fun q hq => (h.2.2.2 q.1 q.2 (prs_mem.mp hq)).1⟩
theorem LV.get {ls : Array Slot} {nL : Nat} {L : List (Option Value)} (h : LV ls nL L) {i : Nat} {v : Value} (hi : L[i]? = some (some v)) : ls[i]? = some (.val v) := (h.2.2.2 i v hi).1
theorem LV.set {ls ls' : Array Slot} {nL : Nat} {L : List (Option Value)} {i : Nat} {v : Value} (h : LV ls nL L) (hv : v.category = 1) (hl : lv_has ls' nL ((i, v) :: (prsOf L).filter (fun q => !(q.1 == i) && !(q.1 + 1 == i && q.2.category == 2)))) : LV ls' nL (L.set i (some v)) := by
  refine ⟨hl.1, by rw [List.length_set]; exact h.2.1, hl.2.1, fun j w hj => ?_⟩
  by_cases hij : j = i
  · subst hij
    have hlt : j < (L.set j (some v)).length := (List.getElem?_eq_some_iff.mp hj).1
    rw [List.length_set] at hlt
    rw [List.getElem?_set_self hlt] at hj
    cases hj
    exact ⟨hl.2.2 (j, v) List.mem_cons_self, hv⟩
  · rw [List.getElem?_set_ne (Ne.symm hij)] at hj
    obtain ⟨-, hc⟩ := h.2.2.2 j w hj
    refine ⟨hl.2.2 (j, w) (List.mem_cons_of_mem _ (List.mem_filter.mpr ⟨prs_mem.mpr hj, ?_⟩)), hc⟩
    simp [hij, hc]
/-- what holds of a method's frame -/
def FX (E : EV) (y : MI) (p : Program) (s : State) (m : MethodId) (args : Array Value) (meth : Method) (c : Code) : Prop :=
  p.tables.exec = Jvm.exec ∧ c.code = y.2.1 ∧ meth.sig.returnType = y.2.2.2.1 ∧ c.maxLocals = y.2.2.1 ∧ s.vm.findClass y.1.cls = some m.cls ∧ (∀ w ∈ gw, w.before args s = true) ∧ meth.locks = false ∧ meth.name = y.1.name ∧ c.exceptionTable.toList = tableOf y.2.2.2.2 ∧ KS E s ∧ KH E s s.heap
/-- from this frame the method ends with r, in G' -/
def RU (E : EV) (d : Nat) (y : MI) (pc : Nat) (L : List (Option Value)) (st : List Value) (G : GH) (r : Res) (G' : GH) : Prop :=
  gz G ≤ gz G' ∧ gs G ≤ gs G' ∧ ∀ (p : Program) (e : Env) (s : State) (m : MethodId) (args : Array Value) (below : List Frame) (meth : Method) (c : Code) (H : Heap) (locs : List Loc) (ls : Array Slot) (z0 s0 : Nat),
    FX E y p s m args meth c → GP E G H → va_S (AR E) s.heap H locs → LV ls y.2.2.1 L → z0 ≤ gz G → s0 ≤ gs G →
    W p (eL E) e (rmD d (gz G' - z0) (gs G' - s0)) s m args below meth c H locs (gz G - z0) (gs G - s0) (vx_MQ below (QR E r G') (XR E r G') args s (gz G' - z0) (gs G' - s0) (AR E)) (F0 m pc ls st)
def J (E : EV) (d : Nat) (y : MI) (pc : Nat) (L : List (Option Value)) (st : List Value) (G : GH) (Post : Res → GH → Prop) : Prop := ∃ r G', RU E d y pc L st G r G' ∧ Post r G'
abbrev cwd (y : MI) : Cond := match y.2.2.2.2 with | [] => Cond.code y.1 y.2.1 y.2.2.1 y.2.2.2.1 | hh => Cond.codeWith y.1 y.2.1 y.2.2.1 y.2.2.2.1 hh
abbrev wsM (y : MI) : List Cond := cwd y :: gw
/-- the method's contract at these arguments and this ghost heap -/
def CT (E : EV) (d : Nat) (y : MI) (args : List Value) (G : GH) (r : Res) (G' : GH) : Prop :=
  gz G ≤ gz G' ∧ gs G ≤ gs G' ∧ vx_Met (eL E) y.1 (wsM y) (rmD d (gz G' - gz G) (gs G' - gs G)) (va_Pc args (fun U => KS E U ∧ KH E U U.heap ∧ GP E G U.heap)) (QR E r G') (XR E r G') (gz G' - gz G) (gs G' - gs G) (AR E)
def Cl (E : EV) (d : Nat) (y : MI) (args : List Value) (G : GH) (Post : Res → GH → Prop) : Prop := ∃ r G', CT E d y args G r G' ∧ Post r G'
theorem J.mono {E : EV} {d : Nat} {y : MI} {pc : Nat} {L : List (Option Value)} {st : List Value} {G : GH} {P Q : Res → GH → Prop} (h : J E d y pc L st G P) (hq : ∀ r G', P r G' → Q r G') : J E d y pc L st G Q := by
  obtain ⟨r, G', h1, h2⟩ := h
  exact ⟨r, G', h1, hq r G' h2⟩
theorem Cl.mono {E : EV} {d : Nat} {y : MI} {args : List Value} {G : GH} {P Q : Res → GH → Prop} (h : Cl E d y args G P) (hq : ∀ r G', P r G' → Q r G') : Cl E d y args G Q := by
  obtain ⟨r, G', h1, h2⟩ := h
  exact ⟨r, G', h1, hq r G' h2⟩
section JROWS
variable {E : EV} {d : Nat} {y : MI} {pc : Nat} {L : List (Option Value)} {st : List Value} {G : GH} {Post : Res → GH → Prop}
/-- a step that leaves heap and room as they are -/
theorem j_step {pc' : Nat} {L' : List (Option Value)} {st' : List Value}
    (hs : ∀ (p : Program) (e : Env) (R : Room) (s : State) (m : MethodId) (args : Array Value) (below : List Frame) (meth : Method) (c : Code) (H : Heap) (locs : List Loc) (cells slots : Nat) (Q : State → Prop) (ls : Array Slot), FX E y p s m args meth c → GP E G H → va_S (AR E) s.heap H locs → LV ls y.2.2.1 L → R.frames = 20 + d → R.locals = 400 + 40 * d → cells ≤ R.cells → slots ≤ R.slots →
      (∀ ls', LV ls' y.2.2.1 L' → W p (eL E) e R s m args below meth c H locs cells slots Q (F0 m pc' ls' st')) → W p (eL E) e R s m args below meth c H locs cells slots Q (F0 m pc ls st))
    (k : J E d y pc' L' st' G Post) : J E d y pc L st G Post := by
  obtain ⟨r, G', ⟨h1, h2, h3⟩, hp⟩ := k
  refine ⟨r, G', ⟨h1, h2, ?_⟩, hp⟩
  intro p e s m args below meth c H locs ls z0 s0 fx hg hS hl hz hsl
  exact hs p e _ s m args below meth c H locs _ _ _ ls fx hg hS hl rfl rfl (Nat.sub_le_sub_right h1 _) (Nat.sub_le_sub_right h2 _) (fun ls' hl' => h3 p e s m args below meth c H locs ls' z0 s0 fx hg hS hl' hz hsl)
/-- a step that writes, but makes nothing -/
theorem j_write {pc' : Nat} {L' : List (Option Value)} {st' : List Value} {G1 : GH} (ez : gz G1 = gz G) (es : gs G1 = gs G)
    (hs : ∀ (p : Program) (e : Env) (R : Room) (s : State) (m : MethodId) (args : Array Value) (below : List Frame) (meth : Method) (c : Code) (H : Heap) (locs : List Loc) (cells slots : Nat) (Q : State → Prop) (ls : Array Slot), FX E y p s m args meth c → GP E G H → va_S (AR E) s.heap H locs → LV ls y.2.2.1 L → R.frames = 20 + d → R.locals = 400 + 40 * d →
      (∀ H' locs', GP E G1 H' → va_S (AR E) s.heap H' locs' → ∀ ls', LV ls' y.2.2.1 L' → W p (eL E) e R s m args below meth c H' locs' cells slots Q (F0 m pc' ls' st')) → W p (eL E) e R s m args below meth c H locs cells slots Q (F0 m pc ls st))
    (k : J E d y pc' L' st' G1 Post) : J E d y pc L st G Post := by
  obtain ⟨r, G', ⟨h1, h2, h3⟩, hp⟩ := k
  rw [ez] at h1 h3
  rw [es] at h2 h3
  refine ⟨r, G', ⟨h1, h2, ?_⟩, hp⟩
  intro p e s m args below meth c H locs ls z0 s0 fx hg hS hl hz hsl
  exact hs p e _ s m args below meth c H locs _ _ _ ls fx hg hS hl rfl rfl (fun H' locs' hg' hS' ls' hl' => h3 p e s m args below meth c H' locs' ls' z0 s0 fx hg' hS' hl' hz hsl)
/-- a step that makes a cell of n slots -/
theorem j_make {pc' : Nat} {L' : List (Option Value)} {st' : List Value} {G1 : GH} {n : Nat} (ez : gz G1 = gz G + 1) (es : gs G1 = gs G + n)
    (hs : ∀ (p : Program) (e : Env) (R : Room) (s : State) (m : MethodId) (args : Array Value) (below : List Frame) (meth : Method) (c : Code) (H : Heap) (locs : List Loc) (cells slots : Nat) (Q : State → Prop) (ls : Array Slot), FX E y p s m args meth c → GP E G H → va_S (AR E) s.heap H locs → LV ls y.2.2.1 L → cells + 1 ≤ R.cells → slots + n ≤ R.slots →
      (∀ H', GP E G1 H' → va_S (AR E) s.heap H' locs → ∀ ls', LV ls' y.2.2.1 L' → W p (eL E) e R s m args below meth c H' locs (cells + 1) (slots + n) Q (F0 m pc' ls' st')) → W p (eL E) e R s m args below meth c H locs cells slots Q (F0 m pc ls st))
    (k : J E d y pc' L' st' G1 Post) : J E d y pc L st G Post := by
  obtain ⟨r, G', ⟨h1, h2, h3⟩, hp⟩ := k
  refine ⟨r, G', ⟨by omega, by omega, ?_⟩, hp⟩
  intro p e s m args below meth c H locs ls z0 s0 fx hg hS hl hz hsl
  refine hs p e _ s m args below meth c H locs _ _ _ ls fx hg hS hl (by show gz G - z0 + 1 ≤ gz G' - z0; omega) (by show gs G - s0 + n ≤ gs G' - s0; omega) (fun H' hg' hS' ls' hl' => ?_)
  have h4 := h3 p e s m args below meth c H' locs ls' z0 s0 fx hg' hS' hl' (by omega) (by omega)
  rw [show gz G - z0 + 1 = gz G1 - z0 by omega, show gs G - s0 + n = gs G1 - s0 by omega]
  exact h4
/-! constants, locals, arithmetic -/
theorem j_iconst {n : Int} {v : Int32} (hd : decode y.2.1 pc = .ok (.iconst n, 1)) (hv : Int32.ofInt n = v) (k : J E d y (pc + 1) L (.int v :: st) G Post) : J E d y pc L st G Post :=
  j_step (fun _ _ _ _ _ _ _ _ _ _ _ _ _ _ ls fx _ _ hl _ _ _ _ kk => lv_iconst fx.1 fx.2.1 hd hv (kk ls hl)) k
theorem j_bipush {n : Int} {v : Int32} (hd : decode y.2.1 pc = .ok (.bipush n, 2)) (hv : (Int8.ofInt n).toInt32 = v) (k : J E d y (pc + 2) L (.int v :: st) G Post) : J E d y pc L st G Post :=
  j_step (fun _ _ _ _ _ _ _ _ _ _ _ _ _ _ ls fx _ _ hl _ _ _ _ kk => lv_bipush fx.1 fx.2.1 hd hv (kk ls hl)) k
theorem j_sipush {n : Int} {v : Int32} (hd : decode y.2.1 pc = .ok (.sipush n, 3)) (hv : (Int16.ofInt n).toInt32 = v) (k : J E d y (pc + 3) L (.int v :: st) G Post) : J E d y pc L st G Post :=
  j_step (fun _ _ _ _ _ _ _ _ _ _ _ _ _ _ ls fx _ _ hl _ _ _ _ kk => lv_sipush fx.1 fx.2.1 hd hv (kk ls hl)) k
theorem j_lconst {n : Fin 2} {v : Int64} (hd : decode y.2.1 pc = .ok (.lconst n, 1)) (hv : Int64.ofNat (n : Nat) = v) (k : J E d y (pc + 1) L (.long v :: st) G Post) : J E d y pc L st G Post :=
  j_step (fun _ _ _ _ _ _ _ _ _ _ _ _ _ _ ls fx _ _ hl _ _ _ _ kk => lv_lconst fx.1 fx.2.1 hd hv (kk ls hl)) k
theorem j_ldc {i : Nat} {v : Int32} (hw : Cond.constant y.1.cls i v ∈ gw) (hd : decode y.2.1 pc = .ok (.ldc i, 2)) (k : J E d y (pc + 2) L (.int v :: st) G Post) : J E d y pc L st G Post :=
  j_step (fun _ _ _ _ _ _ _ _ _ _ _ _ _ _ ls fx _ _ hl _ _ _ _ kk => lv_ldc fx.1 fx.2.1 fx.2.2.2.2.1 (fx.2.2.2.2.2.1 _ hw) hd (kk ls hl)) k
theorem j_ldcw {i : Nat} {v : Int32} (hw : Cond.constant y.1.cls i v ∈ gw) (hd : decode y.2.1 pc = .ok (.ldc_w i, 3)) (k : J E d y (pc + 3) L (.int v :: st) G Post) : J E d y pc L st G Post :=
  j_step (fun _ _ _ _ _ _ _ _ _ _ _ _ _ _ ls fx _ _ hl _ _ _ _ kk => lv_ldcw fx.1 fx.2.1 fx.2.2.2.2.1 (fx.2.2.2.2.2.1 _ hw) hd (kk ls hl)) k
theorem j_null (hd : decode y.2.1 pc = .ok (.aconst_null, 1)) (k : J E d y (pc + 1) L (.null :: st) G Post) : J E d y pc L st G Post :=
  j_step (fun _ _ _ _ _ _ _ _ _ _ _ _ _ _ ls fx _ _ hl _ _ _ _ kk => lv_null fx.1 fx.2.1 hd (kk ls hl)) k
theorem j_iload_n {n : Fin 4} {x : Int32} (hd : decode y.2.1 pc = .ok (.iload_n n, 1)) (hL : L[(n : Nat)]? = some (some (.int x))) (k : J E d y (pc + 1) L (.int x :: st) G Post) : J E d y pc L st G Post :=
  j_step (fun _ _ _ _ _ _ _ _ _ _ _ _ _ _ ls fx _ _ hl _ _ _ _ kk => lv_iload_n fx.1 fx.2.1 hd rfl (hl.get hL) (kk ls hl)) k
theorem j_iload {n : Nat} {x : Int32} (hd : decode y.2.1 pc = .ok (.iload n, 2)) (hL : L[n]? = some (some (.int x))) (k : J E d y (pc + 2) L (.int x :: st) G Post) : J E d y pc L st G Post :=
  j_step (fun _ _ _ _ _ _ _ _ _ _ _ _ _ _ ls fx _ _ hl _ _ _ _ kk => lv_iload fx.1 fx.2.1 hd (hl.get hL) (kk ls hl)) k
theorem j_aload_n {n : Fin 4} {x : Nat} (hd : decode y.2.1 pc = .ok (.aload_n n, 1)) (hL : L[(n : Nat)]? = some (some (.ref x))) (k : J E d y (pc + 1) L (.ref x :: st) G Post) : J E d y pc L st G Post :=
  j_step (fun _ _ _ _ _ _ _ _ _ _ _ _ _ _ ls fx _ _ hl _ _ _ _ kk => lv_aload_n fx.1 fx.2.1 hd rfl (hl.get hL) (kk ls hl)) k
theorem j_aload {n : Nat} {x : Nat} (hd : decode y.2.1 pc = .ok (.aload n, 2)) (hL : L[n]? = some (some (.ref x))) (k : J E d y (pc + 2) L (.ref x :: st) G Post) : J E d y pc L st G Post :=
  j_step (fun _ _ _ _ _ _ _ _ _ _ _ _ _ _ ls fx _ _ hl _ _ _ _ kk => lv_aload fx.1 fx.2.1 hd (hl.get hL) (kk ls hl)) k
theorem j_aload_nq {n : Fin 4} {x : Option Nat} (hd : decode y.2.1 pc = .ok (.aload_n n, 1)) (hL : L[(n : Nat)]? = some (some (va_rf x))) (k : J E d y (pc + 1) L (va_rf x :: st) G Post) : J E d y pc L st G Post := by
  cases x with
  | none => exact j_step (fun _ _ _ _ _ _ _ _ _ _ _ _ _ _ ls fx _ _ hl _ _ _ _ kk => lv_aload_nN fx.1 fx.2.1 hd rfl (hl.get hL) (kk ls hl)) k
  | some x => exact j_aload_n hd hL k
theorem j_aloadq {n : Nat} {x : Option Nat} (hd : decode y.2.1 pc = .ok (.aload n, 2)) (hL : L[n]? = some (some (va_rf x))) (k : J E d y (pc + 2) L (va_rf x :: st) G Post) : J E d y pc L st G Post := by
  cases x with
  | none => exact j_step (fun _ _ _ _ _ _ _ _ _ _ _ _ _ _ ls fx _ _ hl _ _ _ _ kk => lv_aloadN fx.1 fx.2.1 hd (hl.get hL) (kk ls hl)) k
  | some x => exact j_aload hd hL k
theorem j_istore_n {n : Fin 4} {x : Int32} {L' : List (Option Value)} (hd : decode y.2.1 pc = .ok (.istore_n n, 1)) (hn : (n : Nat) < y.2.2.1) (hL : L.set (n : Nat) (some (.int x)) = L') (k : J E d y (pc + 1) L' st G Post) : J E d y pc L (.int x :: st) G Post := by
  subst hL
  exact j_step (fun _ _ _ _ _ _ _ _ _ _ _ _ _ _ ls fx _ _ hl _ _ _ _ kk => lv_istore_n fx.1 fx.2.1 hd rfl hl.has hn rfl (fun ls' h => kk ls' (hl.set rfl h))) k
theorem j_istore {n : Nat} {x : Int32} {L' : List (Option Value)} (hd : decode y.2.1 pc = .ok (.istore n, 2)) (hn : n < y.2.2.1) (hL : L.set n (some (.int x)) = L') (k : J E d y (pc + 2) L' st G Post) : J E d y pc L (.int x :: st) G Post := by
  subst hL
  exact j_step (fun _ _ _ _ _ _ _ _ _ _ _ _ _ _ ls fx _ _ hl _ _ _ _ kk => lv_istore fx.1 fx.2.1 hd hl.has hn rfl (fun ls' h => kk ls' (hl.set rfl h))) k
theorem j_astore_n {n : Fin 4} {x : Option Nat} {v : Value} {L' : List (Option Value)} (hv : v = va_rf x) (hd : decode y.2.1 pc = .ok (.astore_n n, 1)) (hn : (n : Nat) < y.2.2.1) (hL : L.set (n : Nat) (some v) = L') (k : J E d y (pc + 1) L' st G Post) : J E d y pc L (v :: st) G Post := by
  subst hL; subst hv
  cases x with
  | none => exact j_step (fun _ _ _ _ _ _ _ _ _ _ _ _ _ _ ls fx _ _ hl _ _ _ _ kk => lv_astore_nN fx.1 fx.2.1 hd rfl hl.has hn rfl (fun ls' h => kk ls' (hl.set rfl h))) k
  | some x => exact j_step (fun _ _ _ _ _ _ _ _ _ _ _ _ _ _ ls fx _ _ hl _ _ _ _ kk => lv_astore_n fx.1 fx.2.1 hd rfl hl.has hn rfl (fun ls' h => kk ls' (hl.set rfl h))) k
theorem j_astore {n : Nat} {x : Option Nat} {v : Value} {L' : List (Option Value)} (hv : v = va_rf x) (hd : decode y.2.1 pc = .ok (.astore n, 2)) (hn : n < y.2.2.1) (hL : L.set n (some v) = L') (k : J E d y (pc + 2) L' st G Post) : J E d y pc L (v :: st) G Post := by
  subst hL; subst hv
  cases x with
  | none => exact j_step (fun _ _ _ _ _ _ _ _ _ _ _ _ _ _ ls fx _ _ hl _ _ _ _ kk => lv_astoreN fx.1 fx.2.1 hd hl.has hn rfl (fun ls' h => kk ls' (hl.set rfl h))) k
  | some x => exact j_step (fun _ _ _ _ _ _ _ _ _ _ _ _ _ _ ls fx _ _ hl _ _ _ _ kk => lv_astore fx.1 fx.2.1 hd hl.has hn rfl (fun ls' h => kk ls' (hl.set rfl h))) k
theorem j_iinc {i : Nat} {n : Int} {x v : Int32} {L' : List (Option Value)} (hd : decode y.2.1 pc = .ok (.iinc i n, 3)) (hx : L[i]? = some (some (.int x))) (hv : x + Int32.ofInt n = v) (hn : i < y.2.2.1) (hL : L.set i (some (.int v)) = L') (k : J E d y (pc + 3) L' st G Post) : J E d y pc L st G Post := by
  subst hL
  obtain ⟨kx, hkx⟩ := List.getElem?_of_mem (prs_mem.mpr hx)
  exact j_step (fun _ _ _ _ _ _ _ _ _ _ _ _ _ _ ls fx _ _ hl _ _ _ _ kk => lv_iinc fx.1 fx.2.1 hd hl.has hkx hv hn rfl (fun ls' h => kk ls' (hl.set rfl h))) k
theorem j_iadd {a b : Int32} (hd : decode y.2.1 pc = .ok (.iadd, 1)) (k : J E d y (pc + 1) L (.int (a + b) :: st) G Post) : J E d y pc L (.int b :: .int a :: st) G Post :=
  j_step (fun _ _ _ _ _ _ _ _ _ _ _ _ _ _ ls fx _ _ hl _ _ _ _ kk => lv_iadd fx.1 fx.2.1 hd (kk ls hl)) k
theorem j_isub {a b : Int32} (hd : decode y.2.1 pc = .ok (.isub, 1)) (k : J E d y (pc + 1) L (.int (a - b) :: st) G Post) : J E d y pc L (.int b :: .int a :: st) G Post :=
  j_step (fun _ _ _ _ _ _ _ _ _ _ _ _ _ _ ls fx _ _ hl _ _ _ _ kk => lv_isub fx.1 fx.2.1 hd (kk ls hl)) k
theorem j_imul {a b : Int32} (hd : decode y.2.1 pc = .ok (.imul, 1)) (k : J E d y (pc + 1) L (.int (a * b) :: st) G Post) : J E d y pc L (.int b :: .int a :: st) G Post :=
  j_step (fun _ _ _ _ _ _ _ _ _ _ _ _ _ _ ls fx _ _ hl _ _ _ _ kk => lv_imul fx.1 fx.2.1 hd (kk ls hl)) k
theorem j_idiv {a b : Int32} (hd : decode y.2.1 pc = .ok (.idiv, 1)) (h0 : ¬ b = 0) (k : J E d y (pc + 1) L (.int (a / b) :: st) G Post) : J E d y pc L (.int b :: .int a :: st) G Post :=
  j_step (fun _ _ _ _ _ _ _ _ _ _ _ _ _ _ ls fx _ _ hl _ _ _ _ kk => lv_idiv fx.1 fx.2.1 hd h0 (kk ls hl)) k
theorem j_irem {a b : Int32} (hd : decode y.2.1 pc = .ok (.irem, 1)) (h0 : ¬ b = 0) (k : J E d y (pc + 1) L (.int (a - a / b * b) :: st) G Post) : J E d y pc L (.int b :: .int a :: st) G Post :=
  j_step (fun _ _ _ _ _ _ _ _ _ _ _ _ _ _ ls fx _ _ hl _ _ _ _ kk => lv_irem fx.1 fx.2.1 hd h0 (kk ls hl)) k
theorem j_ineg {a : Int32} (hd : decode y.2.1 pc = .ok (.ineg, 1)) (k : J E d y (pc + 1) L (.int (-a) :: st) G Post) : J E d y pc L (.int a :: st) G Post :=
  j_step (fun _ _ _ _ _ _ _ _ _ _ _ _ _ _ ls fx _ _ hl _ _ _ _ kk => lv_ineg fx.1 fx.2.1 hd (kk ls hl)) k
theorem j_iand {a b : Int32} (hd : decode y.2.1 pc = .ok (.iand, 1)) (k : J E d y (pc + 1) L (.int (a &&& b) :: st) G Post) : J E d y pc L (.int b :: .int a :: st) G Post :=
  j_step (fun _ _ _ _ _ _ _ _ _ _ _ _ _ _ ls fx _ _ hl _ _ _ _ kk => lv_iand fx.1 fx.2.1 hd (kk ls hl)) k
theorem j_ior {a b : Int32} (hd : decode y.2.1 pc = .ok (.ior, 1)) (k : J E d y (pc + 1) L (.int (a ||| b) :: st) G Post) : J E d y pc L (.int b :: .int a :: st) G Post :=
  j_step (fun _ _ _ _ _ _ _ _ _ _ _ _ _ _ ls fx _ _ hl _ _ _ _ kk => lv_ior fx.1 fx.2.1 hd (kk ls hl)) k
theorem j_ishr {a b : Int32} (hd : decode y.2.1 pc = .ok (.ishr, 1)) (k : J E d y (pc + 1) L (.int (a >>> (b &&& 31)) :: st) G Post) : J E d y pc L (.int b :: .int a :: st) G Post :=
  j_step (fun _ _ _ _ _ _ _ _ _ _ _ _ _ _ ls fx _ _ hl _ _ _ _ kk => lv_ishr fx.1 fx.2.1 hd (kk ls hl)) k
theorem j_i2l {a : Int32} (hd : decode y.2.1 pc = .ok (.i2l, 1)) (k : J E d y (pc + 1) L (.long a.toInt64 :: st) G Post) : J E d y pc L (.int a :: st) G Post :=
  j_step (fun _ _ _ _ _ _ _ _ _ _ _ _ _ _ ls fx _ _ hl _ _ _ _ kk => lv_i2l fx.1 fx.2.1 hd rfl (kk ls hl)) k
theorem j_dup {v : Value} (hd : decode y.2.1 pc = .ok (.dup, 1)) (hv : v.category = 1) (k : J E d y (pc + 1) L (v :: v :: st) G Post) : J E d y pc L (v :: st) G Post :=
  j_step (fun _ _ _ _ _ _ _ _ _ _ _ _ _ _ ls fx _ _ hl _ _ _ _ kk => lv_dup fx.1 fx.2.1 hd hv (kk ls hl)) k
theorem j_pop {v : Value} (hd : decode y.2.1 pc = .ok (.pop, 1)) (hv : v.category = 1) (k : J E d y (pc + 1) L st G Post) : J E d y pc L (v :: st) G Post :=
  j_step (fun _ _ _ _ _ _ _ _ _ _ _ _ _ _ ls fx _ _ hl _ _ _ _ kk => lv_pop fx.1 fx.2.1 hd hv (kk ls hl)) k
theorem j_dup_x1 {v w : Value} (hd : decode y.2.1 pc = .ok (.dup_x1, 1)) (hv : v.category = 1) (hw : w.category = 1) (k : J E d y (pc + 1) L (v :: w :: v :: st) G Post) : J E d y pc L (v :: w :: st) G Post :=
  j_step (fun _ _ _ _ _ _ _ _ _ _ _ _ _ _ ls fx _ _ hl _ _ _ _ kk => lv_dup_x1 fx.1 fx.2.1 hd hv hw (kk ls hl)) k
theorem j_dup2 {v w : Value} (hd : decode y.2.1 pc = .ok (.dup2, 1)) (hv : v.category = 1) (hw : w.category = 1) (k : J E d y (pc + 1) L (v :: w :: v :: w :: st) G Post) : J E d y pc L (v :: w :: st) G Post :=
  j_step (fun _ _ _ _ _ _ _ _ _ _ _ _ _ _ ls fx _ _ hl _ _ _ _ kk => lv_dup2_11 fx.1 fx.2.1 hd hv hw (kk ls hl)) k
theorem j_goto {off : Int} {tgt : Nat} (hd : decode y.2.1 pc = .ok (.goto off, 3)) (ht : (pc : Int) + off = (tgt : Int)) (k : J E d y tgt L st G Post) : J E d y pc L st G Post :=
  j_step (fun _ _ _ _ _ _ _ _ _ _ _ _ _ _ ls fx _ _ hl _ _ _ _ kk => lv_goto fx.1 fx.2.1 hd ht (kk ls hl)) k
end JROWS
