/-! CALLS -/
theorem ws_in {y : MI} (me : ME y) : ∀ w ∈ wsM y, w ∈ gw := fun w hw => (List.mem_cons.mp hw).elim (fun h => by rw [h]; exact me.2.1) id
/-- what goes on behind a call, in a method without a table -/
def aft (E : EV) (d : Nat) (y : MI) (pc : Nat) (L : List (Option Value)) (rest : List Value) (Post : Res → GH → Prop) : Res → GH → Prop := fun r G1 => match r with
  | .inl v => J E d y (pc + 3) L (v.toList ++ rest) G1 Post
  | .inr X => Post (.inr X) G1
section CALLS
variable {E : EV} {d d' : Nat} {y z : MI} {pc : Nat} {L : List (Option Value)} {st rest As : List Value} {G G1 : GH} {Post : Res → GH → Prop} {b n idx : Nat} {r1 : Res}
theorem pc_blind {args : List Value} {G : GH} : FrameBlind (va_Pc args (fun U => KS E U ∧ KH E U U.heap ∧ GP E G U.heap)) := fun a U g mk h => by
  obtain ⟨h0, h1, h2, h3⟩ := h
  exact ⟨h0, KS.warm (U := U.calling g mk a) (State.WarmedH.refl U) h1, KH.move (U := U.calling g mk a) (Vm.Alike.refl U.vm) (fun _ _ _ => rfl) h2, h3⟩
theorem pc_start {s : State} {H : Heap} {locs : List Loc} {args : List Value} (hK : KS E s) (hKH : KH E s s.heap) (hS : va_S (AR E) s.heap H locs) (hg : GP E G H) : ∀ U : State, U.heap = H → s.WarmedH U.vm → va_Pc args (fun U => KS E U ∧ KH E U U.heap ∧ GP E G U.heap) args.toArray U := fun U hU hW =>
  ⟨rfl, KS.warm hW hK, by rw [hU]; exact KH.move hW.alike hS.2.1 hKH, by rw [hU]; exact hg⟩
/-- behind a call: what the run gives, and what goes on -/
theorem w_after {p : Program} {e : Env} {R : Room} {s : State} {m : MethodId} {args a0 : Array Value} {below : List Frame} {meth : Method} {c : Code} {H : Heap} {locs : List Loc} {cells slots mc ms : Nat} {Q : State → Prop} {ls : Array Slot}
    (hr : vx_Run p (eL E) e R s m args below meth c H locs cells slots mc ms (F0 m pc ls st) rest (QR E r1 G1 a0) (XR E r1 G1) (AR E)) (hS : va_S (AR E) s.heap H locs)
    (kk : ∀ v, r1 = .inl v → ∀ H' locs', GP E G1 H' → va_S (AR E) s.heap H' locs' → W p (eL E) e R s m args below meth c H' locs' (cells + mc) (slots + ms) Q (F0 m (pc + 3) ls (v.toList ++ rest)))
    (kx : ∀ X, r1 = .inr X → ∀ (q : Addr) (ce : Cell) H' locs', GP E G1 H' → va_S (AR E) s.heap H' locs' → H'[q]? = some ce → ce.vm = .none → s.vm.findClass X = some ce.cls → vx_W p (eL E) e R s m args below meth c H' locs' (cells + mc) (slots + ms) Q (F0 m pc ls rest) q) :
    W p (eL E) e R s m args below meth c H locs cells slots Q (F0 m pc ls st) := by
  intro T hT X
  rcases hr T hT X with ⟨v, st₀, t, T', L1, h0, X', hL, e1, e2, ⟨⟨v', hv, hv'⟩, hg, hF⟩, stp⟩ | ⟨q, st₀, t, T', L1, Ex, ce, h0, X', hL, e1, e2, ⟨hx, hg, hF⟩, hce, hcv, hcl, stp⟩
  · cases hv'
    obtain ⟨k1, k2, k3⟩ := vx_keep (A0 := AR E) h0 e1 hS (fun q _ h => h) (fun q h => h) hL hF
    obtain ⟨t2, a1, b1⟩ := kk v hv T'.heap (locs ++ L1) (by rw [e1]; exact hg) k3 T' rfl X'
    exact ⟨t2, stp t2 a1, b1⟩
  · obtain ⟨k1, k2, k3⟩ := vx_keep (A0 := AR E) h0 e1 hS (fun q _ h => h) (fun q h => h) hL hF
    obtain ⟨t2, a1, b1⟩ := kx Ex hx q ce T'.heap (locs ++ L1) (by rw [e1]; exact hg) k3 (by rw [e1]; exact hce) hcv hcl T' rfl X'
    exact ⟨t2, stp.trans a1, b1⟩
/-- a call, its run given, in a method without a table -/
theorem j_run {args : List Value} (hh : y.2.2.2.2 = []) (k : Cl E d' z args G (aft E d y pc L rest Post))
    (hs : ∀ (r1 : Res) (G1 : GH), CT E d' z args G r1 G1 → ∀ (p : Program) (e : Env) (R : Room) (s : State) (m : MethodId) (args9 : Array Value) (below : List Frame) (meth : Method) (c : Code) (H : Heap) (locs : List Loc) (cells slots : Nat) (ls : Array Slot), FX E y p s m args9 meth c → GP E G H → va_S (AR E) s.heap H locs → LV ls y.2.2.1 L → R.frames = 20 + d → R.locals = 400 + 40 * d → cells + (gz G1 - gz G) ≤ R.cells → slots + (gs G1 - gs G) ≤ R.slots →
      vx_Run p (eL E) e R s m args9 below meth c H locs cells slots (gz G1 - gz G) (gs G1 - gs G) (F0 m pc ls st) rest (QR E r1 G1 args.toArray) (XR E r1 G1) (AR E)) : J E d y pc L st G Post := by
  obtain ⟨r1, G1, hc, hp⟩ := k
  obtain ⟨c1, c2, -⟩ := id hc
  cases r1 with
  | inl v =>
    obtain ⟨r, G', ⟨h1, h2, h3⟩, hp⟩ := hp
    refine ⟨r, G', ⟨Nat.le_trans c1 h1, Nat.le_trans c2 h2, ?_⟩, hp⟩
    intro p e s m args9 below meth c H locs ls z0 s0 fx hg hS hl hz hsl
    refine w_after (hs _ G1 hc p e _ s m args9 below meth c H locs _ _ ls fx hg hS hl rfl rfl (by show gz G - z0 + (gz G1 - gz G) ≤ gz G' - z0; omega) (by show gs G - s0 + (gs G1 - gs G) ≤ gs G' - s0; omega)) hS (fun v' hv H' locs' hg' hS' => ?_) (fun X hX => by cases hX)
    cases hv
    have h4 := h3 p e s m args9 below meth c H' locs' ls z0 s0 fx hg' hS' hl (by omega) (by omega)
    rw [show gz G - z0 + (gz G1 - gz G) = gz G1 - z0 by omega, show gs G - s0 + (gs G1 - gs G) = gs G1 - s0 by omega]
    exact h4
  | inr X =>
    refine ⟨.inr X, G1, ⟨c1, c2, ?_⟩, hp⟩
    intro p e s m args9 below meth c H locs ls z0 s0 fx hg hS hl hz hsl
    refine w_after (hs _ G1 hc p e _ s m args9 below meth c H locs _ _ ls fx hg hS hl rfl rfl (by show gz G - z0 + (gz G1 - gz G) ≤ gz G1 - z0; omega) (by show gs G - s0 + (gs G1 - gs G) ≤ gs G1 - s0; omega)) hS (fun v hv => by cases hv) (fun X' hX q ce H' locs' hg' hS' g1 g2 g3 => ?_)
    cases hX
    refine vx_out (by rw [fx.2.2.2.2.2.2.2.2.1, hh]; intro x hx; cases hx) fx.2.2.2.2.2.2.1 g1 g2 g3 (fun t ht _ => ⟨rfl, by rw [ht]; exact hg', hS'.F ht⟩) hS'.2.2 (by omega) (by omega)
/-- a virtual call of a method of the receiver's own class -/
def CV (own : String) (idx : Nat) (z : MI) (n : Nat) : Prop := Cond.methodLink own idx z.1 ∈ gw ∧ Cond.instanceMethod z.1 ∈ gw ∧ Cond.selects z.1.cls z.1 z.1 ∈ gw ∧ (parseMethodDescriptor z.1.desc).map (fun q => q.parameters.length) = some n
theorem run_V {r1 : Res} {G1 : GH} {ci : Nat} {q : vw_C} (cv : CV y.1.cls idx z n) (me : ME z) (hhz : z.2.2.2.2 = []) (hlz : z.2.2.1 ≤ 20) (hc : kcl[ci]? = some q) (hq : q.1 = z.1.cls) (hT : gT G b = ci + 1) (hn : As.length = n) (hst : st = As.reverse ++ .ref b :: rest) (hr : (rest.map fun v => v.category).sum ≤ 8) (hd : decode y.2.1 pc = .ok (.invokevirtual idx, 3)) (hdd : d' < d) (ct : CT E d' z (.ref b :: As) G r1 G1)
    {p : Program} {e : Env} {R : Room} {s : State} {m : MethodId} {args9 : Array Value} {below : List Frame} {meth : Method} {c : Code} {H : Heap} {locs : List Loc} {cells slots : Nat} {ls : Array Slot} (fx : FX E y p s m args9 meth c) (hg : GP E G H) (hS : va_S (AR E) s.heap H locs) (hl : LV ls y.2.2.1 L) (hR1 : R.frames = 20 + d) (hR2 : R.locals = 400 + 40 * d) (hcc : cells + (gz G1 - gz G) ≤ R.cells) (hss : slots + (gs G1 - gs G) ≤ R.slots) :
    vx_Run p (eL E) e R s m args9 below meth c H locs cells slots (gz G1 - gz G) (gs G1 - gs G) (F0 m pc ls st) rest (QR E r1 G1 (Value.ref b :: As).toArray) (XR E r1 G1) (AR E) := by
  obtain ⟨l1, l2, l3, l4⟩ := cv
  have hK := fx.2.2.2.2.2.2.2.2.2.1
  have hKH := fx.2.2.2.2.2.2.2.2.2.2
  obtain ⟨y1, y2, y3, y4, hh⟩ := z
  dsimp only at hhz
  subst hhz
  have hrecv := va_recv hK.2.1 (hg.one (cell_obj hT (kcl_ok ci q hc).2.2.2.2)) (q0 := 0) hc rfl
  rw [hq] at hrecv
  refine vx_runV (C := y1.cls) (As := As) (rest := rest) ⟨fx.1, fx.2.1, fx.2.2.2.1, fx.2.2.2.2.1, fx.2.2.2.2.2.1⟩ ct.2.2 (cwV n fx.2.2.2.2.2.1 (gw_in fun w hw => ?_) rfl rfl rfl ⟨rfl, me.2.2.2.1, me.2.2.2.2, l4⟩ ⟨by show 20 + d' + 1 ≤ R.frames; omega, by show 8 + (y3 + 11) + (400 + 40 * d') ≤ R.locals; (have : y3 ≤ 20 := hlz); omega⟩) ⟨pc_blind, hrecv, pc_start hK hKH hS hg⟩ rfl hn (hl.1) hst (lv_room hr) hd ⟨hcc, hss⟩
  rcases List.mem_append.mp hw with h | h
  · simp only [List.mem_cons, List.not_mem_nil, or_false] at h
    rcases h with rfl | rfl | rfl | rfl
    · exact l1
    · exact l2
    · exact l3
    · exact me.2.2.1
  · exact ws_in me w h
theorem j_callV {ci : Nat} {q : vw_C} (cv : CV y.1.cls idx z n) (me : ME z) (hhz : z.2.2.2.2 = []) (hlz : z.2.2.1 ≤ 20) (hc : kcl[ci]? = some q) (hq : q.1 = z.1.cls) (hT : gT G b = ci + 1) (hn : As.length = n) (hst : st = As.reverse ++ .ref b :: rest) (hr : (rest.map fun v => v.category).sum ≤ 8) (hd : decode y.2.1 pc = .ok (.invokevirtual idx, 3)) (hdd : d' < d) (hh : y.2.2.2.2 = []) (k : Cl E d' z (.ref b :: As) G (aft E d y pc L rest Post)) : J E d y pc L st G Post :=
  j_run hh k (fun _ _ ct _ _ _ _ _ _ _ _ _ _ _ _ _ _ fx hg hS hl h1 h2 h3 h4 => run_V cv me hhz hlz hc hq hT hn hst hr hd hdd ct fx hg hS hl h1 h2 h3 h4)
/-- a static call -/
def CS (own : String) (idx : Nat) (z : MI) (n : Nat) : Prop := Cond.methodLink own idx z.1 ∈ gw ∧ Cond.static z.1 ∈ gw ∧ (parseMethodDescriptor z.1.desc).map (fun q => q.parameters.length) = some n
theorem j_callS (cs : CS y.1.cls idx z n) (me : ME z) (hhz : z.2.2.2.2 = []) (hlz : z.2.2.1 ≤ 20) (hn : As.length = n) (hst : st = As.reverse ++ rest) (hr : (rest.map fun v => v.category).sum ≤ 8) (hd : decode y.2.1 pc = .ok (.invokestatic idx, 3)) (hdd : d' < d) (hh : y.2.2.2.2 = []) (k : Cl E d' z As G (aft E d y pc L rest Post)) : J E d y pc L st G Post := by
  refine j_run hh k (fun r1 G1 ct p e R s m args9 below meth c H locs cells slots ls fx hg hS hl hR1 hR2 hcc hss => ?_)
  obtain ⟨l1, l2, l4⟩ := cs
  have hK := fx.2.2.2.2.2.2.2.2.2.1
  have hKH := fx.2.2.2.2.2.2.2.2.2.2
  obtain ⟨y1, y2, y3, y4, hh'⟩ := z
  dsimp only at hhz
  subst hhz
  refine vx_runS (As := As) (rest := rest) ⟨fx.1, fx.2.1, fx.2.2.2.1, fx.2.2.2.2.1, fx.2.2.2.2.2.1⟩ ct.2.2 (va_cwS n fx.2.2.2.2.2.1 (gw_in fun w hw => ?_) rfl rfl rfl ⟨me.2.2.2.1, me.2.2.2.2, l4⟩ ⟨by show 20 + d' + 1 ≤ R.frames; omega, by show 8 + (y3 + 11) + (400 + 40 * d') ≤ R.locals; (have : y3 ≤ 20 := hlz); omega⟩) ⟨pc_blind, pc_start hK hKH hS hg⟩ rfl hn (hl.1) hst (lv_room hr) hd ⟨hcc, hss⟩
  rcases List.mem_append.mp hw with h | h
  · simp only [List.mem_cons, List.not_mem_nil, or_false] at h
    rcases h with rfl | rfl | rfl
    · exact l1
    · exact l2
    · exact me.2.2.1
  · exact ws_in me w h
/-- a static call of a method with a table -/
theorem j_callSX (cs : CS y.1.cls idx z n) (me : ME z) (hhz : ∃ q qs, z.2.2.2.2 = q :: qs) (hlz : z.2.2.1 ≤ 20) (hn : As.length = n) (hst : st = As.reverse ++ rest) (hr : (rest.map fun v => v.category).sum ≤ 8) (hd : decode y.2.1 pc = .ok (.invokestatic idx, 3)) (hdd : d' < d) (hh : y.2.2.2.2 = []) (k : Cl E d' z As G (aft E d y pc L rest Post)) : J E d y pc L st G Post := by
  refine j_run hh k (fun r1 G1 ct p e R s m args9 below meth c H locs cells slots ls fx hg hS hl hR1 hR2 hcc hss => ?_)
  obtain ⟨l1, l2, l4⟩ := cs
  have hK := fx.2.2.2.2.2.2.2.2.2.1
  have hKH := fx.2.2.2.2.2.2.2.2.2.2
  obtain ⟨y1, y2, y3, y4, hh'⟩ := z
  obtain ⟨q, qs, hhz⟩ := hhz
  dsimp only at hhz
  subst hhz
  refine vx_runSX (As := As) (rest := rest) (hh := q :: qs) ⟨fx.1, fx.2.1, fx.2.2.2.1, fx.2.2.2.2.1, fx.2.2.2.2.2.1⟩ ct.2.2 (vx_cwSW n fx.2.2.2.2.2.1 (gw_in fun w hw => ?_) rfl rfl rfl ⟨me.2.2.2.1, me.2.2.2.2, l4⟩ ⟨by show 20 + d' + 1 ≤ R.frames; omega, by show 8 + (y3 + 11) + (400 + 40 * d') ≤ R.locals; (have : y3 ≤ 20 := hlz); omega⟩) ⟨pc_blind, pc_start hK hKH hS hg⟩ rfl hn (hl.1) hst (lv_room hr) hd ⟨hcc, hss⟩
  rcases List.mem_append.mp hw with h | h
  · simp only [List.mem_cons, List.not_mem_nil, or_false] at h
    rcases h with rfl | rfl | rfl
    · exact l1
    · exact l2
    · exact me.2.2.1
  · exact ws_in me w h
/-- a constructor, by a link of its own (nest mates: CIN) -/
def CI (own : String) (idx : Nat) (z : MI) (n : Nat) : Prop := Cond.methodLink own idx z.1 ∈ gw ∧ Cond.instanceMethod z.1 ∈ gw ∧ z.1.name = "<init>" ∧ (parseMethodDescriptor z.1.desc).map (fun q => q.parameters.length) = some n
theorem j_callI (ci : CI y.1.cls idx z n) (me : ME z) (hhz : z.2.2.2.2 = []) (hrz : z.2.2.2.1 = none) (hlz : z.2.2.1 ≤ 20) (hn : As.length = n) (hst : st = As.reverse ++ .ref b :: rest) (hr : (rest.map fun v => v.category).sum ≤ 8) (hd : decode y.2.1 pc = .ok (.invokespecial idx, 3)) (hdd : d' < d) (hh : y.2.2.2.2 = []) (k : Cl E d' z (.ref b :: As) G (aft E d y pc L rest Post)) : J E d y pc L st G Post := by
  refine j_run hh k (fun r1 G1 ct p e R s m args9 below meth c H locs cells slots ls fx hg hS hl hR1 hR2 hcc hss => ?_)
  obtain ⟨l1, l2, l3, l4⟩ := ci
  have hK := fx.2.2.2.2.2.2.2.2.2.1
  have hKH := fx.2.2.2.2.2.2.2.2.2.2
  obtain ⟨y1, y2, y3, y4, hh'⟩ := z
  dsimp only at hhz hrz
  subst hhz
  subst hrz
  exact vx_runI (As := As) (rest := rest) ⟨fx.1, fx.2.1, fx.2.2.2.1, fx.2.2.2.2.1, fx.2.2.2.2.2.1⟩ ct.2.2 (cwI n fx.2.2.2.2.2.1 (gw_in (ws_in me)) rfl rfl rfl (fx.2.2.2.2.2.1 _ me.2.2.1) (fx.2.2.2.2.2.1 _ l1) (fx.2.2.2.2.2.1 _ l2) l3 ⟨me.2.2.2.1, me.2.2.2.2, l4⟩ ⟨by show 20 + d' + 1 ≤ R.frames; omega, by show 8 + (y3 + 11) + (400 + 40 * d') ≤ R.locals; (have : y3 ≤ 20 := hlz); omega⟩) ⟨pc_blind, pc_start hK hKH hS hg⟩ rfl hn (hl.1) hst (lv_room hr) hd ⟨hcc, hss⟩
def CIN (own : String) (idx : Nat) (z : MI) (host : String) (n : Nat) : Prop := (own, idx, z.1, host) ∈ nestL ∧ Cond.instanceMethod z.1 ∈ gw ∧ z.1.name = "<init>" ∧ (parseMethodDescriptor z.1.desc).map (fun q => q.parameters.length) = some n
theorem j_callIN {host : String} (ci : CIN y.1.cls idx z host n) (me : ME z) (hhz : z.2.2.2.2 = []) (hrz : z.2.2.2.1 = none) (hlz : z.2.2.1 ≤ 20) (hn : As.length = n) (hst : st = As.reverse ++ .ref b :: rest) (hr : (rest.map fun v => v.category).sum ≤ 8) (hd : decode y.2.1 pc = .ok (.invokespecial idx, 3)) (hdd : d' < d) (hh : y.2.2.2.2 = []) (k : Cl E d' z (.ref b :: As) G (aft E d y pc L rest Post)) : J E d y pc L st G Post := by
  refine j_run hh k (fun r1 G1 ct p e R s m args9 below meth c H locs cells slots ls fx hg hS hl hR1 hR2 hcc hss => ?_)
  obtain ⟨l1, l2, l3, l4⟩ := ci
  have hK := fx.2.2.2.2.2.2.2.2.2.1
  have hKH := fx.2.2.2.2.2.2.2.2.2.2
  obtain ⟨y1, y2, y3, y4, hh'⟩ := z
  dsimp only at hhz hrz
  subst hhz
  subst hrz
  exact vx_runIN (host := host) (As := As) (rest := rest) ⟨fx.1, fx.2.1, fx.2.2.2.1, fx.2.2.2.2.1, fx.2.2.2.2.2.1⟩ ct.2.2 ⟨va_cnB n fx.2.2.2.2.2.1 (gw_in (ws_in me)) rfl rfl rfl (hK.2.2.1 _ l1) (fx.2.2.2.2.2.1 _ me.2.2.1) ⟨me.2.2.2.1, me.2.2.2.2, l4⟩ ⟨by show 20 + d' + 1 ≤ R.frames; omega, by show 8 + (y3 + 11) + (400 + 40 * d') ≤ R.locals; (have : y3 ≤ 20 := hlz); omega⟩, l3, fx.2.2.2.2.2.1 _ l2⟩ ⟨pc_blind, pc_start hK hKH hS hg⟩ rfl hn (hl.1) hst (lv_room hr) hd ⟨hcc, hss⟩
end CALLS
