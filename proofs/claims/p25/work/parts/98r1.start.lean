/-! THE START: the environment, the ghost heap and the room of the law's own frame; then the claim, by the kit's skeleton (its rows from R_law on) -/
section START
theorem room_le {s : State} {pl : Platform} {R R' : Room} (h1 : R'.frames ≤ R.frames) (h2 : R'.cells ≤ R.cells) (h3 : R'.slots ≤ R.slots) (h4 : R'.locals ≤ R.locals) (h : s.hasRoom pl R = true) : s.hasRoom pl R' = true := by
  simp only [State.hasRoom, Bool.and_eq_true, decide_eq_true_eq] at h ⊢
  obtain ⟨⟨⟨⟨a, b1, b2, b3, b4, b5⟩, c⟩, d⟩, e⟩ := h
  exact ⟨⟨⟨⟨by omega, by omega, by omega, by omega, by omega, b5⟩, by omega⟩, by omega⟩, e⟩
theorem W_inRoom {p : Program} {l : Launch} {e : Env} {R R' : Room} {s : State} {m : MethodId} {args : Array Value} {below : List Frame} {meth : Method} {c : Code} {H : Heap} {locs : List Loc} {cells slots : Nat} {Q Q' : State → Prop} {g : JFrame} (h1 : R'.frames ≤ R.frames) (h2 : R'.cells ≤ R.cells) (h3 : R'.slots ≤ R.slots) (h4 : R'.locals ≤ R.locals) (kk : W p l e R' s m args below meth c H locs cells slots Q g) (hQ : ∀ t, Q t → Q' t) : W p l e R s m args below meth c H locs cells slots Q' g := by
  intro T hT X
  obtain ⟨t, a, b⟩ := kk T hT { X with room := room_le h1 h2 h3 h4 X.room }
  exact ⟨t, a, hQ t b⟩
theorem row_of {c : Cell} {cA : ClassId} {n : Nat} {f : Nat → Value} (hs : c.slots.size = n) (h : ∀ j, j < n → c.slots[j]? = some (f j)) : c.slots = (arrV cA n f).slots := by
  apply Array.ext_getElem?
  intro i
  by_cases hi : i < n
  · rw [h i hi, arrV_read _ _ hi]
  · rw [Array.getElem?_eq_none (by omega), Array.getElem?_eq_none (by rw [arrV_size]; omega)]
def eAf (cI cZ cL cO cS cX : ClassId) : Nat → ClassId := fun t => if t = 20 then cI else if t = 21 then cZ else if t = 22 then cL else if t = 23 then cO else if t = 24 then cS else cX
/-- the ghost heap of the start: the script at b, ArrayList's own empty row at a, nothing else -/
def gStart (b a L z : Nat) (xs : Nat → Int32) : GH := (fun q => if q = b then 25 else if q = a then 26 else 0, fun _ _ => 0, fun _ _ => none, fun q => if q = b then L else 0, fun q i => if q = b then xs i else 0, fun _ _ => none, fun _ _ => 0, z, 0)
theorem gStart_tag {b a L z : Nat} {xs : Nat → Int32} {q : Nat} (h : gT (gStart b a L z xs) q ≠ 0) : q = b ∨ q = a := by
  by_cases h1 : q = b
  · exact Or.inl h1
  · by_cases h2 : q = a
    · exact Or.inr h2
    · exact absurd (show gT (gStart b a L z xs) q = 0 from (if_neg h1).trans (if_neg h2)) h
theorem gStart_b {b a L z : Nat} {xs : Nat → Int32} : gT (gStart b a L z xs) b = 25 := if_pos rfl
theorem gStart_a {b a L z : Nat} {xs : Nat → Int32} (h : b ≠ a) : gT (gStart b a L z xs) a = 26 := (if_neg (Ne.symm h)).trans (if_pos rfl)
theorem gStart_cell {E : EV} {b a L z : Nat} {xs : Nat → Int32} (h : b ≠ a) (q : Nat) : cell E (gStart b a L z xs) q = none := by
  have hT : gT (gStart b a L z xs) q = 0 ∨ gT (gStart b a L z xs) q = 25 ∨ gT (gStart b a L z xs) q = 26 := by
    by_cases h0 : gT (gStart b a L z xs) q = 0
    · exact Or.inl h0
    · rcases gStart_tag h0 with rfl | rfl
      · exact Or.inr (Or.inl gStart_b)
      · exact Or.inr (Or.inr (gStart_a h))
  unfold cell
  rcases hT with h0 | h0 | h0 <;> rw [h0] <;> rfl
theorem len_bound {tm : Term} {args : Array Value} {s : State} {a : Nat} {c : Cell} {v : Value} (h1 : tm.eval args s none [] s = some (.ref a)) (h2 : s.arrayAt? a = some c) (h : (Term.length tm).eval args s none [] s = some v) : c.slots.size < 2 ^ 31 := by
  by_cases hlt : c.slots.size < 2 ^ 31
  · exact hlt
  · exfalso
    have hlt' : ¬ c.slots.size < 2147483648 := hlt
    simp [Term.eval, h1] at h
    rw [h2] at h
    simp [hlt'] at h
theorem start_env {s : State} {b L : Nat} {xs : Nat → Int32} {l : Launch} (hflags : l.flags = flags0) (hts : ∀ w ∈ lw_tbl, w.before #[Value.ref b] s = true) (hX : va_X b L xs s s.heap) (hbl : b < s.heap.size) (hgv : (Jvm.Cond.and given_1 narrow_1).before #[Value.ref b] s = true) :
    ∃ (E : EV) (G : GH), eL E = l ∧ eB E = s.heap.size ∧ KS E s ∧ KH E s s.heap ∧ GP E G s.heap ∧ Wf G ∧ EmR E G ∧ gT G b = 25 ∧ gN G b = L := by
  have ht : ∀ w ∈ tables_1, w.before #[Value.ref b] s = true := fun w hw => hts w (List.mem_append_right _ hw)
  have hg : ∀ w ∈ gw, w.before #[Value.ref b] s = true := fun w hw => hts w (List.mem_filter.mp hw).1
  have hq := flat_of_before _ hgv
  have hfl : l.stackTraces = false := by
    unfold Launch.stackTraces
    rw [hflags]
    decide +kernel
  have hex : ∀ ci : Nat, ∃ z : ClassId × (Nat → Nat), ∀ q : vw_C, kcl[ci]? = some q → u_Kn s q.1 q.2.1 q.2.2 z.1 z.2 := by
    intro ci
    cases h : kcl[ci]? with
    | none => exact ⟨(0, fun _ => 0), fun q hq => by cases hq⟩
    | some q0 =>
      obtain ⟨cC, iS, hK⟩ := u_known hg (kcl_ok ci q0 h).1 (ht _ (inst_ok ci q0 h))
      exact ⟨(cC, iS), fun q hq => by cases hq; exact hK⟩
  obtain ⟨D, hD⟩ : ∃ D : va_G, ∀ (ci : Nat) (q : vw_C), kcl[ci]? = some q → u_Kn s q.1 q.2.1 q.2.2 (D.1 ci) (D.2 ci) := ⟨(fun ci => (Classical.choose (hex ci)).1, fun ci => (Classical.choose (hex ci)).2), fun ci => Classical.choose_spec (hex ci)⟩
  obtain ⟨cI, kI, mI, i1, i2, i3⟩ := Cond.arrayClass_spec (ht _ ac_int)
  obtain ⟨cZ, kZ, mZ, z1, z2, z3⟩ := Cond.arrayClass_spec (ht _ ac_boolean)
  obtain ⟨pO, cO, kO, o1, -, o3, o4, o5⟩ := Cond.arrayOver_spec (ht _ ao_obj)
  obtain ⟨pS, cS, kS, s1, -, s3, s4, s5⟩ := Cond.arrayOver_spec (ht _ ao_src)
  obtain ⟨scr, x1, x2, x3, x4, x5⟩ := id hX
  obtain ⟨aD, cD, row, kD, d1, d2, d3, d4, d5, d6, -⟩ := Cond.exactly_spec (hq _ lf_ex)
  obtain ⟨d7, d9⟩ := Cond.arrayOf_spec (hq _ lf_ar) d1 d3
  have d8 : row.slots.size = 0 := by
    obtain ⟨y, e1, e2⟩ := Cond.eq_one (hq _ lf_ln)
    cases e2
    obtain ⟨a9, c9, f1, f2, f3⟩ := Term.length_spec e1
    cases Option.some.inj (f1.symm.trans d1)
    cases Option.some.inj ((State.arrayAt?_spec f2).1.symm.trans d3)
    have hlt : row.slots.size < 2 ^ 31 := len_bound d1 f2 e1
    have h9 : (0 : Int32) = nI row.slots.size := Value.int.inj f3
    have h8 := congrArg Int32.toNatClampNeg h9
    rw [nI_clamp hlt] at h8
    exact h8.symm
  obtain ⟨mi, hmi⟩ : ∃ mi, va_Mi "[Ljava/lang/Object;" mi s := by
    have h := hq _ lf_mi
    cases hc : s.vm.findClass "[Ljava/lang/Object;" with
    | none => simp [Cond.before, Cond.holds, Cond.value, Term.eval, hc] at h
    | some c =>
      cases hk : s.vm.classes[c]? with
      | none => simp [Cond.before, Cond.holds, Cond.value, Term.eval, hc, hk] at h
      | some k =>
        cases hm : k.mirror with
        | none => simp [Cond.before, Cond.holds, Cond.value, Term.eval, hc, hk, hm] at h
        | some mi => exact ⟨mi, c, k, hc, hk, hm⟩
  have hne : b ≠ aD := by
    intro h
    subst h
    cases Option.some.inj (x1.symm.trans d3)
    obtain ⟨-, k1, e1, p1, f1⟩ := x2
    obtain ⟨-, k2, e2, p2, f2⟩ := d7
    cases Option.some.inj (e1.symm.trans e2)
    have h9 := f1.symm.trans f2
    simp at h9
  have hcD : row.cls = cO := d6.trans (Option.some.inj (d2.symm.trans o5))
  have hal : aD < s.heap.size := (Array.getElem?_eq_some_iff.mp d3).1
  refine ⟨(l, D, eAf cI cZ cI cO cS scr.cls, s.heap.size, aD, mi), gStart b aD L s.heap.size xs, rfl, rfl, ⟨hfl, ⟨hD, ?_⟩, fun q hm => va_Nw.of rfl (ht _ (nest_ok q hm)), fun q hm => va_Nw.of rfl (ht _ (dec_ok q hm)), fun q hm => va_Nw.of rfl (ht _ (cast_ok q hm)), ?_, fun q hm => va_Nc.of (hq _ (nc_ok q hm)), va_AO.of (ht _ ao_obj), ⟨va_AO.of (ht _ ao_src), ?_⟩, hmi⟩,
    ⟨va_Zof (ht _ ls_dc) (ht _ in_AL) d1 (fun a h => Nat.not_le.mpr h), vx_Zqof (ht _ ls_us) (ht _ in_Th) (hq _ lf_us) (fun a h => Nat.not_le.mpr h), vx_Zqof (ht _ ls_ss) (ht _ in_Th) (hq _ lf_ss) (fun a h => Nat.not_le.mpr h)⟩,
    ⟨rfl, Nat.le_refl _, ?_, ⟨?_, ?_⟩, ?_⟩, ?_, ⟨gStart_a hne, if_neg (Ne.symm hne)⟩, gStart_b, if_pos rfl⟩
  · intro k q hk
    match k, hk with
    | 0, hk => cases hk; exact ⟨fun n z => ⟨fun k h => (by cases h), kI, i2, mI, i3⟩, i1⟩
    | 1, hk => cases hk; exact ⟨fun n z => ⟨fun k h => (by cases h), kZ, z2, mZ, z3⟩, z1⟩
    | 2, hk => cases hk; exact ⟨fun n z => ⟨fun k h => (by cases h), kI, i2, mI, i3⟩, i1⟩
    | 3, hk => cases hk; exact ⟨fun n z => ⟨fun k h => (by cases h), kO, o3, pO, o4⟩, kO, pO, o3, o4, o1, o5⟩
    | 4, hk => cases hk; exact ⟨fun n z => ⟨fun k h => (by cases h), kS, s3, pS, s4⟩, kS, pS, s3, s4, s1, s5⟩
    | k + 5, hk => simp [tysE] at hk
  · intro q hm
    obtain ⟨h1, h2⟩ := str_ok q hm
    obtain ⟨a, _, _, _, e, -⟩ := Cond.exactly_spec (hq _ h2)
    exact ⟨a, vk_R.of (ht _ h1) e⟩
  · obtain ⟨-, kX, e1, pX, e2⟩ := x2
    exact fun n z => ⟨fun k h => (by cases h), kX, e1, pX, e2⟩
  · intro a h1 h2
    rcases gStart_tag h1 with rfl | rfl
    · rw [gStart_b] at h2; omega
    · rw [gStart_a hne] at h2; omega
  · intro a h1
    rcases gStart_tag h1 with rfl | rfl
    · exact hbl
    · exact hal
  · intro a e he
    rcases wcell_tag he with h1 | h1
    · have hab : a = b := by
        rcases gStart_tag (by rw [h1]; omega) with h | h
        · exact h
        · rw [h, gStart_a hne] at h1; omega
      subst hab
      rw [wcell_25 h1] at he
      cases he
      refine ⟨hbl, scr, x1, rfl, ?_, x3, x2.1⟩
      exact row_of (x4.trans (if_pos rfl).symm) (fun j hj => (x5 j (by rw [show gN (gStart a aD L s.heap.size xs) a = L from if_pos rfl] at hj; exact hj)).trans (congrArg (fun z => some (Value.int z)) (show gA (gStart a aD L s.heap.size xs) a j = xs j from if_pos rfl).symm))
    · have hab : a = aD := by
        rcases gStart_tag (by rw [h1]; omega) with h | h
        · rw [h, gStart_b] at h1; omega
        · exact h
      subst hab
      rw [wcell_26 h1] at he
      cases he
      refine ⟨hal, row, d3, hcD, ?_, d9, d7.1⟩
      exact row_of (d8.trans (if_neg (Ne.symm hne)).symm) (fun j hj => absurd (show j < 0 from (show gN (gStart b a L s.heap.size xs) a = 0 from if_neg (Ne.symm hne)) ▸ (show j < gN (gStart b a L s.heap.size xs) a from hj)) (Nat.not_lt_zero j))
  · intro a e he
    rw [gStart_cell hne] at he
    cases he
  · intro a h1
    rcases gStart_tag h1 with rfl | rfl
    · exact hbl
    · exact hal
/-! from here on the skeleton's rows, with whole_start and what it stands on -/
def R_law : String := "SnowmeltStreamsLaw"
def lw_P (b : Addr) (xs : List Int32) (args : Array Value) (s : State) : Prop := args = #[.ref b] ∧ s.IntsAt b xs ∧ xs.length ≤ 260 ∧ (Jvm.Cond.and given_1 narrow_1).before args s = true
def lw_Q (_ : Array Value) (s : State) (o : Outcome) (t : State) : Prop := o = .returned (some (.int 1)) ∧ Framed s o t [] 600074 7301550
def lw_Z (below : List Frame) (a : Array Value) (s : State) : State → Prop := fun t => ∃ o, t.status = .running ∧ Ended t below o ∧ lw_Q a s o t
def lw_At (p : Program) (s : State) (m : MethodId) (meth : Method) (c : Code) (b L : Nat) (xs : Nat → Int32) : Prop :=
  p.tables.exec = Jvm.exec ∧ c.code = code ∧ meth.sig.returnType = ret ∧ c.maxLocals = 27 ∧ s.vm.findClass R_law = some m.cls ∧ (∀ w ∈ lw_tbl, w.before #[Value.ref b] s = true) ∧ va_X b L xs s s.heap ∧ b < s.heap.size ∧ meth.locks = false ∧ (Jvm.Cond.and given_1 narrow_1).before #[Value.ref b] s = true ∧ meth.name = x.name ∧ c.exceptionTable.toList = []
theorem whole_start {p : Program} {e : Env} {s : State} {m : MethodId} {below : List Frame} {meth : Method} {c : Code} (l : Launch) (hflags : l.flags = flags0) {b L : Nat} {xs : Nat → Int32} (hL : L ≤ 260) (C0 : lw_At p s m meth c b L xs) : W p l e room_1 s m #[Value.ref b] below meth c s.heap [] 0 0 (lw_Z below #[Value.ref b] s) (entryFrame m ([Value.ref b] : List Value).toArray 27) := by
  obtain ⟨hx, hb, hr, hml, hown, hts, hX, hbl, hlocks, hgv, hname, htab⟩ := C0
  obtain ⟨E, G, hl, hB, hKS, hKH, hGP, hWf, hEm, hT, hN⟩ := start_env hflags hts hX hbl hgv
  subst hl
  obtain ⟨r, G', ⟨h1, h2, h3⟩, rfl, hz, hs⟩ := c_law25 (E := E) (Post := fun r G' => r = .inl (some (.int 1)) ∧ gz G' ≤ gz G + 600074 ∧ gs G' ≤ gs G + 7301550) hWf hEm (Or.inr hT) hN hL (fun G' g1 g2 => ⟨rfl, g1, g2⟩)
  have hlv : LV ((lg_sl [Value.ref b] ++ List.replicate (27 - (lg_sl [Value.ref b]).length) Slot.unset).toArray) 27 (entryL 27 [Value.ref b]) := LV.entry (fun v hv => by rw [List.mem_singleton.mp hv]; rfl) (Nat.le_of_ble_eq_true rfl)
  have h4 := h3 p e s m #[Value.ref b] below meth c s.heap [] _ (gz G) (gs G) ⟨hx, hb, hr, hml, hown, fun w hw => hts w (List.mem_filter.mp hw).1, hlocks, hname, htab, hKS, hKH⟩ hGP va_S.rf hlv (Nat.le_refl _) (Nat.le_refl _)
  rw [Nat.sub_self, Nat.sub_self] at h4
  rw [lg_entry_eq]
  refine W_inRoom (by show 20 + 15 ≤ 2048; omega) (by show gz G' - gz G ≤ 600074; omega) (by show gs G' - gs G ≤ 7301550; omega) (by show 400 + 40 * 15 ≤ 84000; omega) h4 (fun t hQ => ?_)
  obtain ⟨o, q1, q2, q3⟩ := hQ
  rcases q3 with ⟨⟨⟨v, hv, ho⟩, -, -⟩, L9, hF, hfree⟩ | ⟨q, -, X9, ce, L9, ⟨hv, -⟩, -⟩
  · cases hv
    refine ⟨o, q1, q2, ho, ⟨_, ho⟩, hF.2.1, ?_⟩
    exact hF.2.2.weaken (fun y hy hlt => absurd hlt (Nat.not_lt.mpr (by have h9 := hfree y hy; rw [← hB]; exact h9))) (by omega) (by omega)
  · cases hv
set_option maxHeartbeats 4000000 in
theorem lw_walk (l : Launch) (hflags : l.flags = flags0) (b : Addr) (xs : List Int32) : MetFree l x (headSpec (Jvm.Cond.code x code maxLocals ret :: tables_1) room_1) (lw_P b xs) (fun _ _ _ _ _ => True) lw_Q := by
  refine MetFree.of_bodyS (code := code) (maxLocals := maxLocals) (ret := ret) (by decide) ?_ ?_
  · intro args s m h hn
    obtain ⟨meth, c, h1, h2, h3, h4, h5, h6, -, -⟩ := Cond.code_spec hn (atoms_spec (ws := Jvm.Cond.code x code maxLocals ret :: tables_1) h _ List.mem_cons_self)
    exact ⟨meth, c, h1, h2, h3, h4, h5, h6⟩
  · intro p e s m args below meth c s₁ B hml0 hP _
    obtain ⟨rfl, hx, hbd, hgv⟩ := hP
    obtain ⟨scr, harrAt, hlist, hof, hsmall⟩ := hx
    obtain ⟨hcb, hkn, -, -⟩ := State.arrayAt?_spec harrAt
    have hown : s.vm.findClass R_law = some m.cls := findClass_of_methodNamed B.named
    have hts0 : ∀ c ∈ (Jvm.Cond.code x code maxLocals ret :: tables_1), c.before #[Value.ref b] s = true := atoms_spec (ws := Jvm.Cond.code x code maxLocals ret :: tables_1) B.pre
    have hts : ∀ w ∈ lw_tbl, w.before #[Value.ref b] s = true := k2_hts_sels lw_privs (fun w hw => hts0 w (List.mem_cons_of_mem _ hw)) lw_privs_ok
    have hml : c.maxLocals = 27 := B.maxLocals_eq (hts0 _ List.mem_cons_self)
    have X₀ : Stand p l e room_1 s m #[Value.ref b] below meth c s₁ [] 0 0 := Stand.of_body B
    have hh0 : s₁.heap = s.heap := by rw [B.state]; rfl
    have hsz : scr.slots.size = xs.length := by rw [← Array.length_toList, hlist, List.length_map]
    have hval : ∀ j : Nat, j < xs.length → scr.slots[j]? = some (.int (xs.getD j 0)) := fun j hj => by
      rw [← Array.getElem?_toList, hlist]
      simp [hj]
    have hbl : b < s.heap.size := (Array.getElem?_eq_some_iff.mp hcb).1
    have hX : va_X b xs.length (fun j => xs.getD j 0) s s.heap := ⟨scr, hcb, hof, hkn, hsz, hval⟩
    have hnm : meth.name = x.name := (name_of_methodNamed B.named B.method).1
    have htb : c.exceptionTable.toList = [] := by
      obtain ⟨meth9, c9, h1, h2, -, -, -, -, h7, -⟩ := Cond.code_spec B.named (hts0 _ List.mem_cons_self)
      cases Option.some.inj (h1.symm.trans B.method)
      cases Option.some.inj (h2.symm.trans X₀.code)
      rw [Array.isEmpty_iff.mp h7]
    have K : W p l e room_1 s m #[Value.ref b] below meth c s₁.heap [] 0 0 (lw_Z below #[Value.ref b] s) (entryFrame m ([Value.ref b] : List Value).toArray 27) := by
      rw [hh0]
      exact whole_start l hflags hbd ⟨B.exec, B.bytes, B.returns, hml, hown, hts, hX, hbl, B.notSynchronized, hgv, hnm, htb⟩
    obtain ⟨t, a1, o, b1, b2, b3⟩ := K s₁ rfl X₀
    exact ⟨t, o, a1, b1, b2, b3⟩
theorem lw_pre_spec {args : Array Value} {s : State} (h : (Jvm.Cond.and given_1 narrow_1).before args s = true) (hr : rest_1_c.before args s = true) : ∃ (b : Addr) (xs : List Int32), lw_P b xs args s := by
  have hs := flat_of_before _ h
  have hq := flat_of_before _ hr
  have hc : (Cond.count 1).before args s = true := hs _ (by decide +kernel)
  have harr : (Cond.arrayOf (.arg 0) .int).before args s = true := hs _ (by decide +kernel)
  have hle : (Cond.le (.length (.arg 0)) (.int 260)).before args s = true := hs _ (by decide +kernel)
  have hlen : (Cond.isInt (.length (.arg 0))).before args s = true := hq _ (by decide +kernel)
  have hall : (Cond.all (.arg 0) (.isInt (.elem (.arg 0) (.index 0)))).before args s = true := hq _ (by decide +kernel)
  obtain ⟨b, xs, hb, hx⟩ := State.ints_of_pre rfl harr hlen hall
  have hsm : xs.length < 2 ^ 31 := hx.choose_spec.2.2.2
  have hev : (Term.length (.arg 0)).eval args s none [] s = some (.int xs.length.toInt32) := hx.length_eval hb
  have hv := Cond.le_ints hev (show (Term.int 260).eval args s none [] s = some (.int 260) from rfl)
  have hd : xs.length.toInt32 ≤ 260 := by
    simpa [Cond.before, Cond.holds, hv] using hle
  have hN : xs.length ≤ 260 := (Int32.ofNat_le_ofNat hsm (by decide)).mp (show Int32.ofNat xs.length ≤ Int32.ofNat 260 from hd)
  exact ⟨b, xs, Cond.one_arg hc (show args[0]? = some (.ref b) from hb), hx, hN, h⟩
theorem lw_comes (l : Launch) (hflags : l.flags = flags0) : Comes l x (Jvm.Cond.code x code maxLocals ret :: tables_1) room_1 (fun tb e args s => Calls_1 tb e args s ∧ rest_1 tb e args s ∧ Pre_1 tb e args s)
    (fun _ _ args s o t => lw_Q args s o t) := by
  intro p e ha hc hk s m args below hf hfit hheap happ hpre
  obtain ⟨b, xs, hP⟩ := lw_pre_spec hpre.2.2 hpre.2.1
  obtain ⟨k, o, h1, h2, h3, hQ⟩ := lw_walk l hflags b xs p e ha hc hk s m args below hf ((Spec.applies_iff_loose hf).mp happ).1 hP trivial
  exact ⟨k, o, h1, h2, h3, hQ⟩
theorem lw_frame {s t : State} {o : Outcome} {args : Array Value} (h : Framed s o t [] 600074 7301550) :
    Framed s o t (fieldLocs frame_1_writes args s ++ arrayLocs frame_1_arrays args s ++ staticLocs frame_1_statics s) 600074 7301550 := h
theorem lw_limb (L : Cond) (hL : ∀ (args : Array Value) (s t : State), L.after args s (.returned (some (.int 1))) t = true) :
    ArmFor flags0 classFile x code maxLocals ret World_1 tables_1 room_1 Calls_1 rest_1 Pre_1
      (fun tb e a s o t => postC L tb e a s o t ∧ Framed s o t (fieldLocs frame_1_writes a s ++ arrayLocs frame_1_arrays a s ++ staticLocs frame_1_statics s) 600074 7301550) := by
  intro l hflags _ _ p e ha hc hk s m args below hf hfit hheap happ hpre
  obtain ⟨k, o, h1, h2, h3, rfl, hF⟩ := lw_comes l hflags p e ha hc hk s m args below hf hfit hheap happ hpre
  exact ⟨k, _, h1, h2, h3, hL args s _, lw_frame hF⟩
theorem i_vc : Claimed_1_1 ∧ Claimed_1_2 := ⟨lw_limb limb_1_1 (fun args s t => by simp [limb_1_1, Cond.after, Cond.holds, Cond.value]), lw_limb limb_1_2 (fun args s t => Cond.after_iff.mpr (by
  first | (rw [show limb_1_2 = Cond.eq .result (.int 1) from rfl, Cond.eq_ints (x := 1) (y := 1) rfl rfl]; simp; done) | (simp [limb_1_2, Cond.value, Term.eval]; done)))⟩
end START
