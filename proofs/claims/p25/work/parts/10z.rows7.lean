/-! p25: a static call under a table, an exception caught going to 'store; push a byte; return'; questions that leave the heap as it is -/
section SPECIAL7
variable {E : EV} {d d' : Nat} {y z : MI} {pc : Nat} {L : List (Option Value)} {st rest As : List Value} {G G1 : GH} {Post : Res → GH → Prop} {a b n idx : Nat}
def HE2 (y : MI) (pc : Nat) (Ex : String) (v : Int32) : Prop := ∃ (pre : List ExceptionTableEntry) (x : ExceptionTableEntry) (suf : List ExceptionTableEntry) (nm : String),
  tableOf y.2.2.2.2 = pre ++ x :: suf ∧ (∀ z ∈ pre, covers z pc = false ∨ (z.catchType ≠ 0 ∧ ∃ nm : String, Cond.classLink y.1.cls z.catchType nm ∈ gw ∧ (Ex, nm) ∈ ncL)) ∧ covers x pc = true ∧ x.catchType ≠ 0 ∧ Cond.classLink y.1.cls x.catchType nm ∈ gw ∧ (Ex, nm) ∈ castL ∧
  ∃ (k : Nat) (n : Int), k < y.2.2.1 ∧ (Int8.ofInt n).toInt32 = v ∧ decode y.2.1 x.handlerPc = .ok (.astore k, 2) ∧ decode y.2.1 (x.handlerPc + 2) = .ok (.bipush n, 2) ∧ decode y.2.1 (x.handlerPc + 2 + 2) = .ok (.ireturn, 1)
def aftH2 (E : EV) (d : Nat) (y : MI) (pc : Nat) (L : List (Option Value)) (rest : List Value) (Post : Res → GH → Prop) : Res → GH → Prop := fun r G1 => match r with
  | .inl v => J E d y (pc + 3) L (v.toList ++ rest) G1 Post
  | .inr X => ∃ v, HE2 y pc X v ∧ Post (.inl (some (.int v))) G1
theorem run_S {r1 : Res} (cs : CS y.1.cls idx z n) (me : ME z) (hhz : z.2.2.2.2 = []) (hlz : z.2.2.1 ≤ 20) (hn : As.length = n) (hst : st = As.reverse ++ rest) (hr : (rest.map fun v => v.category).sum ≤ 8) (hd : decode y.2.1 pc = .ok (.invokestatic idx, 3)) (hdd : d' < d) (ct : CT E d' z As G r1 G1)
    {p : Program} {e : Env} {R : Room} {s : State} {m : MethodId} {args9 : Array Value} {below : List Frame} {meth : Method} {c : Code} {H : Heap} {locs : List Loc} {cells slots : Nat} {ls : Array Slot} (fx : FX E y p s m args9 meth c) (hg : GP E G H) (hS : va_S (AR E) s.heap H locs) (hl : LV ls y.2.2.1 L) (hR1 : R.frames = 20 + d) (hR2 : R.locals = 400 + 40 * d) (hcc : cells + (gz G1 - gz G) ≤ R.cells) (hss : slots + (gs G1 - gs G) ≤ R.slots) :
    vx_Run p (eL E) e R s m args9 below meth c H locs cells slots (gz G1 - gz G) (gs G1 - gs G) (F0 m pc ls st) rest (QR E r1 G1 As.toArray) (XR E r1 G1) (AR E) := by
  obtain ⟨l1, l2, l4⟩ := cs
  have hK := fx.2.2.2.2.2.2.2.2.2.1
  have hKH := fx.2.2.2.2.2.2.2.2.2.2
  obtain ⟨y1, y2, y3, y4, hh'⟩ := z
  dsimp only at hhz
  subst hhz
  refine vx_runS (As := As) (rest := rest) ⟨fx.1, fx.2.1, fx.2.2.2.1, fx.2.2.2.2.1, fx.2.2.2.2.2.1⟩ ct.2.2 (va_cwS n fx.2.2.2.2.2.1 (gw_in fun w hw => ?_) rfl rfl rfl ⟨me.2.2.2.1, me.2.2.2.2, l4⟩ ⟨by show 20 + d' + 1 ≤ R.frames; omega, by show 8 + (y3 + 11) + (400 + 40 * d') ≤ R.locals; (have : y3 ≤ 20 := hlz); omega⟩) ⟨pc_blind, pc_start hK hKH hS hg⟩ rfl hn (hl.1) hst (lv_room hr) hd ⟨hcc, hss⟩
  rcases List.mem_append.mp hw with h | h
  · simp only [List.mem_cons, List.not_mem_nil, or_false] at h
    rcases h with rfl | rfl | rfl
    · exact l1
    · exact l2
    · exact me.2.2.1
  · exact ws_in me w h
theorem j_callSH (hret : y.2.2.2.1 = some .int) (cs : CS y.1.cls idx z n) (me : ME z) (hhz : z.2.2.2.2 = []) (hlz : z.2.2.1 ≤ 20) (hn : As.length = n) (hst : st = As.reverse ++ rest) (hr : (rest.map fun v => v.category).sum ≤ 8) (hd : decode y.2.1 pc = .ok (.invokestatic idx, 3)) (hdd : d' < d) (k : Cl E d' z As G (aftH2 E d y pc L rest Post)) : J E d y pc L st G Post := by
  obtain ⟨r1, G1, ct, hp⟩ := k
  obtain ⟨c1, c2, -⟩ := id ct
  cases r1 with
  | inl v =>
    obtain ⟨r, G', ⟨h1, h2, h3⟩, hp⟩ := hp
    refine ⟨r, G', ⟨Nat.le_trans c1 h1, Nat.le_trans c2 h2, ?_⟩, hp⟩
    intro p e s m args9 below meth c H locs ls z0 s0 fx hg hS hl hz hsl
    refine w_after (run_S cs me hhz hlz hn hst hr hd hdd ct fx hg hS hl rfl rfl (by show gz G - z0 + (gz G1 - gz G) ≤ gz G' - z0; omega) (by show gs G - s0 + (gs G1 - gs G) ≤ gs G' - s0; omega)) hS (fun v' hv H' locs' hg' hS' => ?_) (fun X hX => by cases hX)
    cases hv
    have h4 := h3 p e s m args9 below meth c H' locs' ls z0 s0 fx hg' hS' hl (by omega) (by omega)
    rw [show gz G - z0 + (gz G1 - gz G) = gz G1 - z0 by omega, show gs G - s0 + (gs G1 - gs G) = gs G1 - s0 by omega]
    exact h4
  | inr X =>
    obtain ⟨v, ⟨pre, x, suf, nm, hsplit, hpass, hx, hx0, hlink, hcast, k, n, hk, hv, d1, d2, d3⟩, hp⟩ := hp
    refine ⟨.inl (some (.int v)), G1, ⟨c1, c2, ?_⟩, hp⟩
    intro p e s m args9 below meth c H locs ls z0 s0 fx hg hS hl hz hsl
    have hK := fx.2.2.2.2.2.2.2.2.2.1
    refine w_after (run_S cs me hhz hlz hn hst hr hd hdd ct fx hg hS hl rfl rfl (by show gz G - z0 + (gz G1 - gz G) ≤ gz G1 - z0; omega) (by show gs G - s0 + (gs G1 - gs G) ≤ gs G1 - s0; omega)) hS (fun v hv => by cases hv) (fun X' hX q ce H' locs' hg' hS' g1 g2 g3 => ?_)
    cases hX
    rw [show gz G - z0 + (gz G1 - gz G) = gz G1 - z0 by omega, show gs G - s0 + (gs G1 - gs G) = gs G1 - s0 by omega]
    refine vx_catch (name := nm) fx.2.2.2.2.1 pre x suf (fx.2.2.2.2.2.2.2.2.1.trans hsplit) (fun z hz => (hpass z hz).elim Or.inl (fun ⟨h0, nm, h1, h2⟩ => Or.inr ⟨h0, nm, fx.2.2.2.2.2.1 _ h1, hK.2.2.2.2.2.2.1 _ h2⟩)) hx hx0 (fx.2.2.2.2.2.1 _ hlink) (va_Nw.use rfl (hK.2.2.2.2.1 _ hcast)) g1 g2 g3 ?_
    refine lv_astore fx.1 fx.2.1 d1 hl.has hk rfl (fun ls' hl' => lv_bipush fx.1 fx.2.1 d2 hv ?_)
    exact vx_ret (W.iret fx.1 fx.2.1 (fx.2.2.1.trans hret) (fun t ht _ => ⟨⟨_, rfl, rfl⟩, by rw [ht]; exact hg', hS'.F ht⟩) hS'.2.2 d3 fx.2.2.2.2.2.2.1)
/-- a question: the answer is v, the heap is as it was -/
def AK (E : EV) (d : Nat) (z : MI) (As : List Value) (G : GH) (v : Int32) : Prop := ∀ Post : Res → GH → Prop, Post (.inl (some (.int v))) G → Cl E d z As G Post
end SPECIAL7
