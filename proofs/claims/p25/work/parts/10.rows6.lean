/-! CALLS OF THE LIBRARY'S OWN, AND CALLS UNDER A TABLE -/
section SPECIAL
variable {E : EV} {d d' : Nat} {y z : MI} {pc : Nat} {L : List (Option Value)} {st rest As : List Value} {G G1 : GH} {Post : Res → GH → Prop} {a b n idx : Nat}
theorem j_objInit (w1 : Cond.methodLink y.1.cls idx Lib.objectInit ∈ gw) (w2 : Cond.instanceMethod Lib.objectInit ∈ gw) (w3 : Cond.code Lib.objectInit ⟨#[0xb1]⟩ 1 none ∈ gw) (hr : (st.map fun v => v.category).sum ≤ 100) (hd : decode y.2.1 pc = .ok (.invokespecial idx, 3)) (k : J E d y (pc + 3) L st G Post) : J E d y pc L (.ref a :: st) G Post := by
  refine j_step (fun p e R s m args below meth c H locs cells slots Q ls fx hg hS hl hR1 hR2 _ _ kk => ?_) k
  exact W.objInit fx.1 fx.2.1 fx.2.2.2.2.1 (fx.2.2.2.2.2.1 _ w1) (fx.2.2.2.2.2.1 _ w2) (fx.2.2.2.2.2.1 _ w3) rfl (hl.1.trans fx.2.2.2.1.symm) rfl hd (by omega) (by show 2 * 0 + _ + 12 ≤ R.locals; omega) (kk ls hl)
theorem j_max {x w : Int32} (w1 : Cond.methodLink y.1.cls idx Lib.Math.max.name ∈ gw) (w2 : Cond.static Lib.Math.max.name ∈ gw) (w3 : Cond.initialized "java/lang/Math" ∈ gw) (w4 : Cond.code Lib.Math.max.name Lib.Math.max.code 2 (some .int) ∈ gw) (hr : (st.map fun v => v.category).sum ≤ 100) (hd : decode y.2.1 pc = .ok (.invokestatic idx, 3)) (k : J E d y (pc + 3) L (.int (if x < w then w else x) :: st) G Post) : J E d y pc L (.int w :: .int x :: st) G Post := by
  refine j_step (fun p e R s m args below meth c H locs cells slots Q ls fx hg hS hl hR1 hR2 h3 h4 kk => ?_) k
  exact va_mmax fx.1 fx.2.1 (fx.2.2.2.1.trans hl.1.symm) fx.2.2.2.2.1 (fx.2.2.2.2.2.1 _ w1) (fx.2.2.2.2.2.1 _ w2) (fx.2.2.2.2.2.1 _ w3) (fx.2.2.2.2.2.1 _ w4) (by omega) (by omega) h3 h4 hd (kk ls hl)
theorem j_min {x w : Int32} (w1 : Cond.methodLink y.1.cls idx Lib.Math.min.name ∈ gw) (w2 : Cond.static Lib.Math.min.name ∈ gw) (w3 : Cond.initialized "java/lang/Math" ∈ gw) (w4 : Cond.code Lib.Math.min.name Lib.Math.min.code 2 (some .int) ∈ gw) (hr : (st.map fun v => v.category).sum ≤ 100) (hd : decode y.2.1 pc = .ok (.invokestatic idx, 3)) (k : J E d y (pc + 3) L (.int (if w < x then w else x) :: st) G Post) : J E d y pc L (.int w :: .int x :: st) G Post := by
  refine j_step (fun p e R s m args below meth c H locs cells slots Q ls fx hg hS hl hR1 hR2 h3 h4 kk => ?_) k
  exact va_mmin fx.1 fx.2.1 (fx.2.2.2.1.trans hl.1.symm) fx.2.2.2.2.1 (fx.2.2.2.2.2.1 _ w1) (fx.2.2.2.2.2.1 _ w2) (fx.2.2.2.2.2.1 _ w3) (fx.2.2.2.2.2.1 _ w4) (by omega) (by omega) h3 h4 hd (kk ls hl)
/-- ArrayList's own empty row -/
theorem j_dcap (w1 : Cond.fieldLink y.1.cls idx "java/util/ArrayList" "DEFAULTCAPACITY_EMPTY_ELEMENTDATA" "[Ljava/lang/Object;" ∈ gw) (hd : decode y.2.1 pc = .ok (.getstatic idx, 3)) (k : J E d y (pc + 3) L (.ref (eC E) :: st) G Post) : J E d y pc L st G Post := by
  refine j_step (fun p e R s m args below meth c H locs cells slots Q ls fx hg hS hl _ _ _ _ kk => ?_) k
  exact va_gets (C := "java/util/ArrayList") fx.1 fx.2.1 fx.2.2.2.2.2.2.2.2.2.2.1 hS fx.2.2.2.2.1 (fx.2.2.2.2.2.1 _ w1) (fun _ h => h) hd (kk ls hl)
/-- the class object of Object[] -/
theorem j_ldcM (w1 : Cond.classLink y.1.cls idx "[Ljava/lang/Object;" ∈ gw) (hd : decode y.2.1 pc = .ok (.ldc idx, 2)) (k : J E d y (pc + 2) L (.ref (eM E) :: st) G Post) : J E d y pc L st G Post := by
  refine j_step (fun p e R s m args below meth c H locs cells slots Q ls fx hg hS hl _ _ _ _ kk => ?_) k
  exact va_ldcM (C := "[Ljava/lang/Object;") fx.1 fx.2.1 fx.2.2.2.2.1 (fx.2.2.2.2.2.1 _ w1) fx.2.2.2.2.2.2.2.2.2.1.2.2.2.2.2.2.2.2.2 hd (kk ls hl)
abbrev gcN : MethodName := ⟨"java/lang/Object", "getClass", "()Ljava/lang/Class;"⟩
/-- a row of objects, old or new: class and contents -/
theorem obj_row {H : Heap} (hg : GP E G H) (ht : gT G a = 23 ∨ gT G a = 26) : ∃ cs : Cell, H[a]? = some cs ∧ WC cs (arrV (eA E 23) (gN G a) (fun j => va_rf (gO G a j))) := by
  rcases ht with ht | ht
  · exact ⟨_, hg.2.2.2.2 a _ (cell_23 ht), WC.self⟩
  · obtain ⟨-, c0, hc, w⟩ := hg.2.2.2.1.2 a _ (wcell_26 ht)
    exact ⟨c0, hc, w⟩
theorem copied_as {cs c0 cd : Cell} {sp dp k : Int32} (h : cs.slots = c0.slots) : copied cs cd sp dp k = copied c0 cd sp dp k := by
  unfold copied Cell.stretch
  rw [h]
theorem j_getC (ht : gT G a = 23 ∨ gT G a = 26) (w1 : Cond.methodLink y.1.cls idx gcN ∈ gw) (w2 : gcN ∈ decL) (w3 : Cond.selects "[Ljava/lang/Object;" gcN gcN ∈ gw) (w4 : Cond.instanceMethod gcN ∈ gw) (w5 : Cond.native gcN ∈ gw) (hr : (st.map fun v => v.category).sum ≤ 100) (hd : decode y.2.1 pc = .ok (.invokevirtual idx, 3)) (k : J E d y (pc + 3) L (.ref (eM E) :: st) G Post) : J E d y pc L (.ref a :: st) G Post := by
  refine j_step (fun p e R s m args below meth c H locs cells slots Q ls fx hg hS hl hR1 hR2 _ _ kk => ?_) k
  have hK := fx.2.2.2.2.2.2.2.2.2.1
  obtain ⟨cs, hca, wa⟩ := obj_row hg ht
  obtain ⟨kA', comp', k1, k2, k3, k4⟩ := (hK.2.1.2 3 _ rfl).2
  exact va_getC (C := "[Ljava/lang/Object;") fx.1 fx.2.1 (fx.2.2.2.1.trans hl.1.symm) fx.2.2.2.2.1 (fx.2.2.2.2.2.1 _ w1) (va_Nw.use rfl (hK.2.2.2.1 _ w2)) (fx.2.2.2.2.2.1 _ w3) (fx.2.2.2.2.2.1 _ w4) (fx.2.2.2.2.2.1 _ w5) hK.2.2.2.2.2.2.2.2.2 ⟨cs, hca, (by cases hv : cs.vm <;> first | rfl | exact absurd hv (wa.2.2.2 _)), by rw [wa.1]; exact k4⟩ (by omega) (by omega) hd (kk ls hl)
/-- an object of the ghost heap that goes into a row of objects -/
def OB (G : GH) (b : Nat) : Prop := ∃ (cb : Nat) (q : vw_C), gT G b = cb + 1 ∧ kcl[cb]? = some q ∧ (q.1, "java/lang/Object") ∈ castL
theorem any_of {s : State} {H : Heap} (hK : KS E s) (hg : GP E G H) (h : OB G b) : va_Any "java/lang/Object" s H b := by
  obtain ⟨cb, q, hb, hc, hcast⟩ := h
  obtain ⟨c0, t1, f1, f2, f3⟩ := Cond.castable_spec (va_Nw.use (A := #[]) rfl (hK.2.2.2.2.1 _ hcast))
  exact va_rAny hK.2.1 (hg.one (cell_obj hb (kcl_ok cb q hc).2.2.2.2)) (q0 := 0) rfl hc (fun comp c1 h1 h2 => by
    cases h1.symm.trans f2
    cases h2.symm.trans f1
    exact f3)
set_option maxHeartbeats 1000000 in
/-- System.arraycopy between rows of objects -/
theorem j_copy {sp dp k : Int32} (ha : gT G a = 23 ∨ gT G a = 26) (hb : gT G b = 23) (h1 : ¬ sp < 0) (h2 : ¬ dp < 0) (h3 : ¬ k < 0) (h4 : sp.toNatClampNeg + k.toNatClampNeg ≤ gN G a) (h5 : dp.toNatClampNeg + k.toNatClampNeg ≤ gN G b) (hel : ∀ i : Nat, i < k.toNatClampNeg → ∀ v : Nat, gO G a (sp.toNatClampNeg + i) = some v → OB G v)
    (w1 : Cond.methodLink y.1.cls idx arraycopyName ∈ gw) (w2 : Cond.native arraycopyName ∈ gw) (w3 : Cond.static arraycopyName ∈ gw) (w4 : Cond.initialized "java/lang/System" ∈ gw) (hr : (st.map fun v => v.category).sum ≤ 100) (hd : decode y.2.1 pc = .ok (.invokestatic idx, 3))
    (kk : J E d y (pc + 3) L st (sW G b (va_cpy (gO G a) (gO G b) sp.toNatClampNeg dp.toNatClampNeg k.toNatClampNeg)) Post) : J E d y pc L (.int k :: .int dp :: .ref b :: .int sp :: .ref a :: st) G Post := by
  refine j_write (G1 := sW G b (va_cpy (gO G a) (gO G b) sp.toNatClampNeg dp.toNatClampNeg k.toNatClampNeg)) rfl rfl (fun p e R s m args below meth c H locs cells slots Q ls fx hg hS hl hR1 hR2 kk => ?_) kk
  have hK := fx.2.2.2.2.2.2.2.2.2.1
  have nn : ∀ z : Int32, ¬ z < 0 → z.toInt = (z.toNatClampNeg : Int) := by
    intro z hz
    have hz0 : (0 : Int) ≤ z.toInt := by
      have := Int32.not_lt.mp hz
      simpa using Int32.le_iff_toInt_le.mp this
    show z.toInt = ((z.toInt.toNat : Nat) : Int)
    omega
  have hw : nativeFrameWords "java/lang/System" "arraycopy" 5 ≤ 200 := by decide +kernel
  intro T hT X
  obtain ⟨cs, hc0, wa⟩ := obj_row hg ha
  have hc1 : H[b]? = some (vp_cell (eA E 23) (gN G b, .inr (.inr (.inr (.inr (gO G b)))))) := hg.2.2.2.2 b _ (cell_23 hb)
  obtain ⟨-, k0, hk0, cm0, hkk0⟩ := (hK.2.1.2 3 _ rfl).1 (gN G a) (fun j => va_rf (gO G a j))
  obtain ⟨-, k1, hk1, cm1, hkk1⟩ := (hK.2.1.2 3 _ rfl).1 (gN G b) (fun j => va_rf (gO G b j))
  obtain ⟨vm', X', step⟩ := X.arraycopy fx.1 fx.2.2.2.2.1 (fx.2.2.2.2.2.1 _ w1) (fx.2.2.2.2.2.1 _ w2) (fx.2.2.2.2.2.1 _ w3) (fx.2.2.2.2.2.1 _ w4) (src := a) (dst := b) (cs := cs) (cd := vp_cell (eA E 23) (gN G b, .inr (.inr (.inr (.inr (gO G b)))))) (srcPos := sp) (destPos := dp) (n := k) (by rw [hT]; exact hc0) (by rw [hT]; exact hc1)
    wa.2.2.2 (fun _ h => by cases h) wa.2.2.1 (fun h => by cases h) (by rw [wa.1]; exact hk0) hk1 hkk0 hkk1 rfl h1 h2 h3
    (by rw [nn sp h1, nn k h3, wa.2.1, arrV_size]; omega)
    (by rw [nn dp h2, nn k h3]; show ¬ _ > ((arrV (eA E 23) (gN G b) (fun j => va_rf (gO G b j))).slots.size : Int); rw [arrV_size]; omega)
    (fun vm₁ hal i hi => by
      have e : cs.slots.getD (sp.toNatClampNeg + i) .null = va_rf (gO G a (sp.toNatClampNeg + i)) := by
        rw [wa.2.1, Array.getD_eq_getD_getElem?, arrV_read _ _ (by omega)]
        rfl
      rw [e]
      cases hy : gO G a (sp.toNatClampNeg + i) with
      | none => exact ⟨rfl, trivial⟩
      | some v =>
        obtain ⟨cellV, g1, g2, ⟨kC, hkC⟩, hasg⟩ := any_of hK hg (hel i hi v hy)
        obtain ⟨kA, comp, r1, r2, r3, -⟩ := (hK.2.1.2 3 _ rfl).2
        cases hk1.symm.trans r1
        cases hkk1.symm.trans r2
        obtain ⟨kE, hkE, -⟩ := Vm.findClass_spec r3
        obtain ⟨kC', hkC', -⟩ := hal.2.2 _ _ hkC
        obtain ⟨kE', hkE', -⟩ := hal.2.2 _ _ hkE
        refine ⟨rfl, cellV, (show T.heap[v]? = some cellV by rw [hT]; exact g1), (fun q h => by rw [h] at g2; cases g2), ⟨kC', hkC'⟩, ?_, ?_⟩
        · exact ⟨kE', hkE'⟩
        · show vm₁.assignable _ _ = true
          rw [hal.assignable]
          exact hasg _ r3)
    (g := F0 m pc ls (.int k :: .int dp :: .ref b :: .int sp :: .ref a :: st)) rfl (by rw [fx.2.2.2.1]; exact hl.1) (rest := st) rfl (by rw [fx.2.1]; exact hd) (by omega) (by show 2 * 0 + _ + _ ≤ _; omega)
  have e1 : copied cs (vp_cell (eA E 23) (gN G b, .inr (.inr (.inr (.inr (gO G b)))))) sp dp k = vp_cell (eA E 23) (gN G b, .inr (.inr (.inr (.inr (va_cpy (gO G a) (gO G b) sp.toNatClampNeg dp.toNatClampNeg k.toNatClampNeg))))) := by
    rw [vp_cell_q, vp_cell_q, copied_as wa.2.1]
    exact va_copied (fun z => va_rf z) (eA E 23) (eA E 23) (gO G a) (gO G b) h4
  rw [e1] at X' step
  have hlb : b < H.size := (Array.getElem?_eq_some_iff.mp hc1).1
  have oq : ∀ q : Nat, q ≠ b → (H.setIfInBounds b (vp_cell (eA E 23) (gN G b, .inr (.inr (.inr (.inr (va_cpy (gO G a) (gO G b) sp.toNatClampNeg dp.toNatClampNeg k.toNatClampNeg)))))))[q]? = H[q]? := fun q hq => by simp [Array.getElem?_setIfInBounds, Ne.symm hq]
  have hheap : ((T.setVm vm').setCell b (vp_cell (eA E 23) (gN G b, .inr (.inr (.inr (.inr (va_cpy (gO G a) (gO G b) sp.toNatClampNeg dp.toNatClampNeg k.toNatClampNeg))))))).heap = H.setIfInBounds b (vp_cell (eA E 23) (gN G b, .inr (.inr (.inr (.inr (va_cpy (gO G a) (gO G b) sp.toNatClampNeg dp.toNatClampNeg k.toNatClampNeg)))))) := by rw [← hT]; rfl
  have hAb : eB E ≤ b := hg.2.2.1 b (by omega) (by omega)
  obtain ⟨t, a1, b1⟩ := kk _ _ (hg.upd (a := b) (by simp) rfl oq (fun _ => rfl) (fun q hq => sW_sm hq) (fun e9 he9 => by
      rw [cell_23 (show gT (sW G b _) b = 23 from hb)] at he9
      cases he9
      show (H.setIfInBounds b _)[b]? = some _
      have e4 : gO (sW G b (va_cpy (gO G a) (gO G b) sp.toNatClampNeg dp.toNatClampNeg k.toNatClampNeg)) b = va_cpy (gO G a) (gO G b) sp.toNatClampNeg dp.toNatClampNeg k.toNatClampNeg := if_pos rfl
      rw [e4]
      simp [Array.getElem?_setIfInBounds, hlb]
      rfl) (by omega)) ⟨by simp; exact hS.1, fun q g1 g2 => by
      rw [oq q (fun e => g2 (by rw [e]; exact hAb))]
      exact hS.2.1 q g1 g2, fun q hq => by
      rcases List.mem_append.mp hq with h | h
      · exact hS.2.2 q h
      · obtain ⟨z, -, hz⟩ := List.mem_map.mp h
        rw [← hz]
        exact hAb⟩ ls hl _ hheap X'
  exact ⟨t, step t a1, b1⟩
/-! a call under a table: an exception caught goes to 'store; constant; return' -/
/-- the exception Ex, thrown at pc, is caught, and the method answers v -/
def HE (y : MI) (pc : Nat) (Ex : String) (v : Int32) : Prop := ∃ (pre : List ExceptionTableEntry) (x : ExceptionTableEntry) (suf : List ExceptionTableEntry) (nm : String),
  tableOf y.2.2.2.2 = pre ++ x :: suf ∧ (∀ z ∈ pre, covers z pc = false ∨ (z.catchType ≠ 0 ∧ ∃ nm : String, Cond.classLink y.1.cls z.catchType nm ∈ gw ∧ (Ex, nm) ∈ ncL)) ∧ covers x pc = true ∧ x.catchType ≠ 0 ∧ Cond.classLink y.1.cls x.catchType nm ∈ gw ∧ (Ex, nm) ∈ castL ∧
  ((∃ (k : Fin 4) (n : Int), (k : Nat) < y.2.2.1 ∧ Int32.ofInt n = v ∧ decode y.2.1 x.handlerPc = .ok (.astore_n k, 1) ∧ decode y.2.1 (x.handlerPc + 1) = .ok (.iconst n, 1) ∧ decode y.2.1 (x.handlerPc + 1 + 1) = .ok (.ireturn, 1)) ∨
   (∃ (k : Nat) (n : Int), k < y.2.2.1 ∧ Int32.ofInt n = v ∧ decode y.2.1 x.handlerPc = .ok (.astore k, 2) ∧ decode y.2.1 (x.handlerPc + 2) = .ok (.iconst n, 1) ∧ decode y.2.1 (x.handlerPc + 2 + 1) = .ok (.ireturn, 1)))
def aftH (E : EV) (d : Nat) (y : MI) (pc : Nat) (L : List (Option Value)) (rest : List Value) (Post : Res → GH → Prop) : Res → GH → Prop := fun r G1 => match r with
  | .inl v => J E d y (pc + 3) L (v.toList ++ rest) G1 Post
  | .inr X => ∃ v, HE y pc X v ∧ Post (.inl (some (.int v))) G1
theorem j_callVH {ci : Nat} {q : vw_C} (hret : y.2.2.2.1 = some .int) (cv : CV y.1.cls idx z n) (me : ME z) (hhz : z.2.2.2.2 = []) (hlz : z.2.2.1 ≤ 20) (hc : kcl[ci]? = some q) (hq : q.1 = z.1.cls) (hT : gT G b = ci + 1) (hn : As.length = n) (hst : st = As.reverse ++ .ref b :: rest) (hr : (rest.map fun v => v.category).sum ≤ 8) (hd : decode y.2.1 pc = .ok (.invokevirtual idx, 3)) (hdd : d' < d) (k : Cl E d' z (.ref b :: As) G (aftH E d y pc L rest Post)) : J E d y pc L st G Post := by
  obtain ⟨r1, G1, ct, hp⟩ := k
  obtain ⟨c1, c2, -⟩ := id ct
  cases r1 with
  | inl v =>
    obtain ⟨r, G', ⟨h1, h2, h3⟩, hp⟩ := hp
    refine ⟨r, G', ⟨Nat.le_trans c1 h1, Nat.le_trans c2 h2, ?_⟩, hp⟩
    intro p e s m args9 below meth c H locs ls z0 s0 fx hg hS hl hz hsl
    refine w_after (run_V cv me hhz hlz hc hq hT hn hst hr hd hdd ct fx hg hS hl rfl rfl (by show gz G - z0 + (gz G1 - gz G) ≤ gz G' - z0; omega) (by show gs G - s0 + (gs G1 - gs G) ≤ gs G' - s0; omega)) hS (fun v' hv H' locs' hg' hS' => ?_) (fun X hX => by cases hX)
    cases hv
    have h4 := h3 p e s m args9 below meth c H' locs' ls z0 s0 fx hg' hS' hl (by omega) (by omega)
    rw [show gz G - z0 + (gz G1 - gz G) = gz G1 - z0 by omega, show gs G - s0 + (gs G1 - gs G) = gs G1 - s0 by omega]
    exact h4
  | inr X =>
    obtain ⟨v, ⟨pre, x, suf, nm, hsplit, hpass, hx, hx0, hlink, hcast, hcode⟩, hp⟩ := hp
    refine ⟨.inl (some (.int v)), G1, ⟨c1, c2, ?_⟩, hp⟩
    intro p e s m args9 below meth c H locs ls z0 s0 fx hg hS hl hz hsl
    have hK := fx.2.2.2.2.2.2.2.2.2.1
    refine w_after (run_V cv me hhz hlz hc hq hT hn hst hr hd hdd ct fx hg hS hl rfl rfl (by show gz G - z0 + (gz G1 - gz G) ≤ gz G1 - z0; omega) (by show gs G - s0 + (gs G1 - gs G) ≤ gs G1 - s0; omega)) hS (fun v hv => by cases hv) (fun X' hX q ce H' locs' hg' hS' g1 g2 g3 => ?_)
    cases hX
    rw [show gz G - z0 + (gz G1 - gz G) = gz G1 - z0 by omega, show gs G - s0 + (gs G1 - gs G) = gs G1 - s0 by omega]
    refine vx_catch (name := nm) fx.2.2.2.2.1 pre x suf (fx.2.2.2.2.2.2.2.2.1.trans hsplit) (fun z hz => (hpass z hz).elim Or.inl (fun ⟨h0, nm, h1, h2⟩ => Or.inr ⟨h0, nm, fx.2.2.2.2.2.1 _ h1, hK.2.2.2.2.2.2.1 _ h2⟩)) hx hx0 (fx.2.2.2.2.2.1 _ hlink) (va_Nw.use rfl (hK.2.2.2.2.1 _ hcast)) g1 g2 g3 ?_
    rcases hcode with ⟨k, n, hk, hv, d1, d2, d3⟩ | ⟨k, n, hk, hv, d1, d2, d3⟩
    · refine lv_astore_n fx.1 fx.2.1 d1 rfl hl.has hk rfl (fun ls' hl' => lv_iconst fx.1 fx.2.1 d2 hv ?_)
      exact vx_ret (W.iret fx.1 fx.2.1 (fx.2.2.1.trans hret) (fun t ht _ => ⟨⟨_, rfl, rfl⟩, by rw [ht]; exact hg', hS'.F ht⟩) hS'.2.2 d3 fx.2.2.2.2.2.2.1)
    · refine lv_astore fx.1 fx.2.1 d1 hl.has hk rfl (fun ls' hl' => lv_iconst fx.1 fx.2.1 d2 hv ?_)
      exact vx_ret (W.iret fx.1 fx.2.1 (fx.2.2.1.trans hret) (fun t ht _ => ⟨⟨_, rfl, rfl⟩, by rw [ht]; exact hg', hS'.F ht⟩) hS'.2.2 d3 fx.2.2.2.2.2.2.1)
end SPECIAL
