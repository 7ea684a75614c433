/-! ROWS (arrays). An index: as a natural number, and within -/
def IX (i : Int32) (n N : Nat) : Prop := i.toNatClampNeg = n ∧ vp_in i N
theorem IX.nI {n N : Nat} (h : n < N) (hN : N < 2 ^ 31) : IX (nI n) n N := ⟨nI_clamp (by omega), vp_in_nI h hN⟩
theorem arr_upd {α : Type} (mk : α → Value) (cA : ClassId) (N k : Nat) (F : Nat → Nat → α) (a : Nat) (x : α) : (arrV cA N (fun j => mk (F a j))).setSlot k (mk x) = arrV cA N (fun j => mk (up2 F a k x a j)) := by
  rw [arrV_store]
  congr 1
  funext j
  unfold updV up2
  by_cases h : j = k
  · rw [if_pos h, if_pos ⟨rfl, h⟩]
  · rw [if_neg h, if_neg (fun z => h z.2)]
section JROWS4
variable {E : EV} {d : Nat} {y : MI} {pc : Nat} {L : List (Option Value)} {st : List Value} {G : GH} {Post : Res → GH → Prop} {a n : Nat} {i : Int32}
theorem j_iald (ht : gT G a = 20 ∨ gT G a = 25) (hi : IX i n (gN G a)) (hd : decode y.2.1 pc = .ok (.iaload, 1)) (kk : J E d y (pc + 1) L (.int (gA G a n) :: st) G Post) : J E d y pc L (.int i :: .ref a :: st) G Post := by
  obtain ⟨rfl, hi⟩ := hi
  rcases ht with ht | ht
  · exact j_step (fun _ _ _ _ _ _ _ _ _ _ _ _ _ _ ls fx hg _ hl _ _ _ _ kk => va_iald fx.1 fx.2.1 fx.2.2.2.2.2.2.2.2.2.1.2.1 (hg.one (cell_20 ht)) 0 0 rfl rfl hi hd (kk ls hl)) kk
  · refine j_step (fun _ _ _ _ _ _ _ _ _ _ _ _ _ _ ls fx hg _ hl _ _ _ _ kk => ?_) kk
    obtain ⟨-, c0, hc, w⟩ := hg.2.2.2.1.2 a _ (wcell_25 ht)
    have w : WC c0 (arrV (eA E 25) (gN G a) (fun j => .int (gA G a j))) := w
    have hlt : i.toNatClampNeg < gN G a := Nat.not_le.mp fun q => hi (Or.inr q)
    exact W.iald (v := .int (gA G a i.toNatClampNeg)) fx.1 fx.2.1 hc (w.arr fx.2.2.2.2.2.2.2.2.2.1.2.2.2.2.2.2.2.2.1.2) w.2.2.1 (by rw [w.2.1, arrV_size]; exact hi) (by rw [w.2.1, arrV_read _ _ hlt]) rfl rfl hd (kk ls hl)
theorem j_zald (ht : gT G a = 21) (hi : IX i n (gN G a)) (hd : decode y.2.1 pc = .ok (.baload, 1)) (kk : J E d y (pc + 1) L (.int (gA G a n) :: st) G Post) : J E d y pc L (.int i :: .ref a :: st) G Post := by
  obtain ⟨rfl, hi⟩ := hi
  exact j_step (fun _ _ _ _ _ _ _ _ _ _ _ _ _ _ ls fx hg _ hl _ _ _ _ kk => va_zald fx.1 fx.2.1 fx.2.2.2.2.2.2.2.2.2.1.2.1 (hg.one (cell_21 ht)) 0 1 rfl rfl hi hd (kk ls hl)) kk
theorem j_aald (ht : gT G a = 23 ∨ gT G a = 24) (hi : IX i n (gN G a)) (hd : decode y.2.1 pc = .ok (.aaload, 1)) (kk : J E d y (pc + 1) L (va_rf (gO G a n) :: st) G Post) : J E d y pc L (.int i :: .ref a :: st) G Post := by
  obtain ⟨rfl, hi⟩ := hi
  rcases ht with ht | ht
  · exact j_step (fun _ _ _ _ _ _ _ _ _ _ _ _ _ _ ls fx hg _ hl _ _ _ _ kk => va_aldq fx.1 fx.2.1 fx.2.2.2.2.2.2.2.2.2.1.2.1 (hg.one (cell_23 ht)) 0 3 rfl rfl hi hd (kk ls hl)) kk
  · exact j_step (fun _ _ _ _ _ _ _ _ _ _ _ _ _ _ ls fx hg _ hl _ _ _ _ kk => va_aldq fx.1 fx.2.1 fx.2.2.2.2.2.2.2.2.2.1.2.1 (hg.one (cell_24 ht)) 0 4 rfl rfl hi hd (kk ls hl)) kk
theorem j_aaldR {b : Nat} (ht : gT G a = 23 ∨ gT G a = 24) (hi : IX i n (gN G a)) (hb : gO G a n = some b) (hd : decode y.2.1 pc = .ok (.aaload, 1)) (kk : J E d y (pc + 1) L (.ref b :: st) G Post) : J E d y pc L (.int i :: .ref a :: st) G Post :=
  j_aald ht hi hd (by rw [hb]; exact kk)
theorem j_alen (ht : 20 ≤ gT G a ∧ gT G a ≤ 26) (hd : decode y.2.1 pc = .ok (.arraylength, 1)) (kk : J E d y (pc + 1) L (.int (nI (gN G a)) :: st) G Post) : J E d y pc L (.ref a :: st) G Post := by
  rcases (show gT G a = 20 ∨ gT G a = 25 ∨ gT G a = 21 ∨ gT G a = 22 ∨ gT G a = 23 ∨ gT G a = 26 ∨ gT G a = 24 by omega) with h | h | h | h | h | h | h
  · exact j_step (fun _ _ _ _ _ _ _ _ _ _ _ _ _ _ ls fx hg _ hl _ _ _ _ kk => va_alen fx.1 fx.2.1 fx.2.2.2.2.2.2.2.2.2.1.2.1 (hg.one (cell_20 h)) 0 0 rfl rfl rfl hd (kk ls hl)) kk
  · refine j_step (fun _ _ _ _ _ _ _ _ _ _ _ _ _ _ ls fx hg _ hl _ _ _ _ kk => ?_) kk
    obtain ⟨-, c0, hc, w⟩ := hg.2.2.2.1.2 a _ (wcell_25 h)
    have w : WC c0 (arrV (eA E 25) (gN G a) (fun j => .int (gA G a j))) := w
    exact W.alen (n := nI (gN G a)) fx.1 fx.2.1 hc (w.arr fx.2.2.2.2.2.2.2.2.2.1.2.2.2.2.2.2.2.2.1.2) (by rw [w.2.1, arrV_size]; rfl) rfl rfl hd (kk ls hl)
  · exact j_step (fun _ _ _ _ _ _ _ _ _ _ _ _ _ _ ls fx hg _ hl _ _ _ _ kk => va_alen fx.1 fx.2.1 fx.2.2.2.2.2.2.2.2.2.1.2.1 (hg.one (cell_21 h)) 0 1 rfl rfl rfl hd (kk ls hl)) kk
  · exact j_step (fun _ _ _ _ _ _ _ _ _ _ _ _ _ _ ls fx hg _ hl _ _ _ _ kk => va_alen fx.1 fx.2.1 fx.2.2.2.2.2.2.2.2.2.1.2.1 (hg.one (cell_22 h)) 0 2 rfl rfl rfl hd (kk ls hl)) kk
  · exact j_step (fun _ _ _ _ _ _ _ _ _ _ _ _ _ _ ls fx hg _ hl _ _ _ _ kk => va_alen fx.1 fx.2.1 fx.2.2.2.2.2.2.2.2.2.1.2.1 (hg.one (cell_23 h)) 0 3 rfl rfl rfl hd (kk ls hl)) kk
  · refine j_step (fun _ _ _ _ _ _ _ _ _ _ _ _ _ _ ls fx hg _ hl _ _ _ _ kk => ?_) kk
    obtain ⟨-, c0, hc, w⟩ := hg.2.2.2.1.2 a _ (wcell_26 h)
    have w : WC c0 (arrV (eA E 23) (gN G a) (fun j => va_rf (gO G a j))) := w
    exact W.alen (n := nI (gN G a)) fx.1 fx.2.1 hc (w.arr (fx.2.2.2.2.2.2.2.2.2.1.2.1.2 3 _ rfl).1) (by rw [w.2.1, arrV_size]; rfl) rfl rfl hd (kk ls hl)
  · exact j_step (fun _ _ _ _ _ _ _ _ _ _ _ _ _ _ ls fx hg _ hl _ _ _ _ kk => va_alen fx.1 fx.2.1 fx.2.2.2.2.2.2.2.2.2.1.2.1 (hg.one (cell_24 h)) 0 4 rfl rfl rfl hd (kk ls hl)) kk
theorem j_iast {x : Int32} (ht : gT G a = 20) (hi : IX i n (gN G a)) (hd : decode y.2.1 pc = .ok (.iastore, 1)) (kk : J E d y (pc + 1) L st (sA G a n x) Post) : J E d y pc L (.int x :: .int i :: .ref a :: st) G Post := by
  obtain ⟨rfl, hi⟩ := hi
  refine j_write (G1 := sA G a i.toNatClampNeg x) rfl rfl (fun _ _ _ _ _ _ _ _ _ H _ _ _ _ ls fx hg hS hl _ _ kk => ?_) kk
  have hc : H[a]? = some (vp_cell (eA E 20) (gN G a, .inl (gA G a))) := hg.2.2.2.2 a _ (cell_20 ht)
  refine W.iast fx.1 fx.2.1 hc ((fx.2.2.2.2.2.2.2.2.2.1.2.1.2 0 _ rfl).1 _ (fun j => .int (gA G a j))) (fun q => by cases q) (by show ¬ (i < 0 ∨ (arrV _ _ _).slots.size ≤ _); rw [arrV_size]; exact hi) rfl rfl hd fun H1 e z oq => ?_
  refine kk H1 _ (hg.upd (a := a) z rfl oq (fun _ => rfl) (fun q hq => sA_sm hq) (fun e9 he9 => ?_) (by omega)) (hS.put z oq (hg.2.2.1 a (by omega) (by omega))) ls hl
  rw [cell_20 (show gT (sA G a i.toNatClampNeg x) a = 20 from ht)] at he9
  cases he9
  show H1[a]? = some (vp_cell _ _)
  rw [e, vp_cell_i, vp_cell_i]
  exact congrArg some (arr_upd Value.int _ _ _ (gA G) a x)
theorem j_zast {x : Int32} (ht : gT G a = 21) (hi : IX i n (gN G a)) (hx : x = 0 ∨ x = 1) (hd : decode y.2.1 pc = .ok (.bastore, 1)) (kk : J E d y (pc + 1) L st (sA G a n x) Post) : J E d y pc L (.int x :: .int i :: .ref a :: st) G Post := by
  obtain ⟨rfl, hi⟩ := hi
  refine j_write (G1 := sA G a i.toNatClampNeg x) rfl rfl (fun _ _ _ _ _ _ _ _ _ H _ _ _ _ ls fx hg hS hl _ _ kk => ?_) kk
  have hc : H[a]? = some (vp_cell (eA E 21) (gN G a, .inl (gA G a))) := hg.2.2.2.2 a _ (cell_21 ht)
  refine W.zast fx.1 fx.2.1 hc ((fx.2.2.2.2.2.2.2.2.2.1.2.1.2 1 _ rfl).1 _ (fun j => .int (gA G a j))) (fun q => by cases q) (by show ¬ (i < 0 ∨ (arrV _ _ _).slots.size ≤ _); rw [arrV_size]; exact hi) rfl rfl hd fun H1 e z oq => ?_
  refine kk H1 _ (hg.upd (a := a) z rfl oq (fun _ => rfl) (fun q hq => sA_sm hq) (fun e9 he9 => ?_) (by omega)) (hS.put z oq (hg.2.2.1 a (by omega) (by omega))) ls hl
  rw [cell_21 (show gT (sA G a i.toNatClampNeg x) a = 21 from ht)] at he9
  cases he9
  show H1[a]? = some (vp_cell _ _)
  rw [show narrow .boolean (.int x) = .int x by rcases hx with rfl | rfl <;> rfl] at e
  rw [e, vp_cell_i, vp_cell_i]
  exact congrArg some (arr_upd Value.int _ _ _ (gA G) a x)
/-- an object into a row of objects -/
theorem j_aastO {b cb : Nat} (ht : gT G a = 23) (hi : IX i n (gN G a)) (hb : gT G b = cb + 1) (hcb : ∃ q, kcl[cb]? = some q ∧ (q.1, "java/lang/Object") ∈ castL) (hd : decode y.2.1 pc = .ok (.aastore, 1)) (kk : J E d y (pc + 1) L st (sO G a n (some b)) Post) : J E d y pc L (.ref b :: .int i :: .ref a :: st) G Post := by
  obtain ⟨rfl, hi⟩ := hi
  obtain ⟨r, hc, hcast⟩ := hcb
  refine j_write (G1 := sO G a i.toNatClampNeg (some b)) rfl rfl (fun _ _ _ _ _ args _ _ _ H _ _ _ _ ls fx hg hS hl _ _ kk => ?_) kk
  have hlt : i.toNatClampNeg < gN G a := Nat.not_le.mp fun q => hi (Or.inr q)
  have h0 : ¬ i < 0 := fun q => hi (Or.inl q)
  have hK := fx.2.2.2.2.2.2.2.2.2.1.2.1
  obtain ⟨r', hr', cellV, g1, g2, g3, -⟩ := hg.2.2.2.2 b _ (cell_obj hb (kcl_ok cb r hc).2.2.2.2)
  have hcls := (hK.1 cb r hc).2
  obtain ⟨kA, comp, k1, k2, k3, -⟩ := (hK.2 3 _ rfl).2
  obtain ⟨kE, hkE, -⟩ := Vm.findClass_spec k3
  obtain ⟨c0, t1, f1, f2, f3⟩ := Cond.castable_spec (va_Nw.use (A := args) rfl (fx.2.2.2.2.2.2.2.2.2.1.2.2.2.2.1 _ hcast))
  cases hcls.1.symm.trans f1
  cases k3.symm.trans f2
  obtain ⟨kC, hkC, -⟩ := hcls.2
  have hca : H[a]? = some (vp_cell (eA E 23) (gN G a, .inr (.inr (.inr (.inr (gO G a)))))) := hg.2.2.2.2 a _ (cell_23 ht)
  refine W.aast fx.1 fx.2.1 hca (fun q h => by cases h) (fun h => by cases h) k1 k2 rfl hkE ⟨h0, by show _ < (arrV _ _ _).slots.size; rw [arrV_size]; exact hlt⟩ g1 (fun q h => by rw [g3] at h; cases h) (by rw [g2]; exact hkC) (by rw [g2]; exact f3) rfl rfl hd fun H1 e z oq => ?_
  refine kk H1 _ (hg.upd (a := a) z rfl oq (fun _ => rfl) (fun q hq => sO_sm hq) (fun e9 he9 => ?_) (by omega)) (hS.put z oq (hg.2.2.1 a (by omega) (by omega))) ls hl
  rw [cell_23 (show gT (sO G a i.toNatClampNeg (some b)) a = 23 from ht)] at he9
  cases he9
  show H1[a]? = some (vp_cell _ _)
  rw [e, vp_cell_q, vp_cell_q]
  exact congrArg some (arr_upd va_rf _ _ _ (gO G) a (some b))
/-- a source into the row of sources -/
theorem j_aastS {b : Nat} (ht : gT G a = 24) (hi : IX i n (gN G a)) (hb : gT G b = 7) (hd : decode y.2.1 pc = .ok (.aastore, 1)) (kk : J E d y (pc + 1) L st (sO G a n (some b)) Post) : J E d y pc L (.ref b :: .int i :: .ref a :: st) G Post := by
  obtain ⟨rfl, hi⟩ := hi
  have hc : kcl[6]? = some ("SnowmeltStreams$Source", T_So, 3) := rfl
  refine j_write (G1 := sO G a i.toNatClampNeg (some b)) rfl rfl (fun _ _ _ _ _ args _ _ _ H _ _ _ _ ls fx hg hS hl _ _ kk => ?_) kk
  have hlt : i.toNatClampNeg < gN G a := Nat.not_le.mp fun q => hi (Or.inr q)
  have h0 : ¬ i < 0 := fun q => hi (Or.inl q)
  have hK := fx.2.2.2.2.2.2.2.2.2.1.2.1
  obtain ⟨r', hr', cellV, g1, g2, g3, -⟩ := hg.2.2.2.2 b _ (cell_obj (ci := 6) hb (by decide))
  have hcls := (hK.1 6 _ hc).2
  obtain ⟨kA, comp, k1, k2, k3, -⟩ := (hK.2 4 _ rfl).2
  have hcomp : comp = (eD E).1 6 := Option.some.inj (k3.symm.trans hcls.1)
  subst hcomp
  obtain ⟨kC, hkC, -⟩ := hcls.2
  have hca : H[a]? = some (vp_cell (eA E 24) (gN G a, .inr (.inr (.inr (.inr (gO G a)))))) := hg.2.2.2.2 a _ (cell_24 ht)
  refine W.aast fx.1 fx.2.1 hca (fun q h => by cases h) (fun h => by cases h) k1 k2 rfl hkC ⟨h0, by show _ < (arrV _ _ _).slots.size; rw [arrV_size]; exact hlt⟩ g1 (fun q h => by rw [g3] at h; cases h) (by rw [g2]; exact hkC) (by rw [g2]; exact va_assign hcls) rfl rfl hd fun H1 e z oq => ?_
  refine kk H1 _ (hg.upd (a := a) z rfl oq (fun _ => rfl) (fun q hq => sO_sm hq) (fun e9 he9 => ?_) (by omega)) (hS.put z oq (hg.2.2.1 a (by omega) (by omega))) ls hl
  rw [cell_24 (show gT (sO G a i.toNatClampNeg (some b)) a = 24 from ht)] at he9
  cases he9
  show H1[a]? = some (vp_cell _ _)
  rw [e, vp_cell_q, vp_cell_q]
  exact congrArg some (arr_upd va_rf _ _ _ (gO G) a (some b))
/-- null into a row of objects -/
theorem j_aastN (ht : gT G a = 23) (hi : IX i n (gN G a)) (hd : decode y.2.1 pc = .ok (.aastore, 1)) (kk : J E d y (pc + 1) L st (sO G a n none) Post) : J E d y pc L (.null :: .int i :: .ref a :: st) G Post := by
  obtain ⟨rfl, hi⟩ := hi
  refine j_write (G1 := sO G a i.toNatClampNeg none) rfl rfl (fun _ _ _ _ _ args _ _ _ H _ _ _ _ ls fx hg hS hl _ _ kk => ?_) kk
  have hca : H[a]? = some (vp_cell (eA E 23) (gN G a, .inr (.inr (.inr (.inr (gO G a)))))) := hg.2.2.2.2 a _ (cell_23 ht)
  refine va_WaastN (C := "java/lang/Object") fx.1 fx.2.1 hca ((fx.2.2.2.2.2.2.2.2.2.1.2.1.2 3 _ rfl).1 _ (fun j => va_rf (gO G a j))) (fun h => by cases h) (by show ¬ (i < 0 ∨ (arrV _ _ _).slots.size ≤ _); rw [arrV_size]; exact hi) rfl rfl hd fun H1 e z oq => ?_
  refine kk H1 _ (hg.upd (a := a) z rfl oq (fun _ => rfl) (fun q hq => sO_sm hq) (fun e9 he9 => ?_) (by omega)) (hS.put z oq (hg.2.2.1 a (by omega) (by omega))) ls hl
  rw [cell_23 (show gT (sO G a i.toNatClampNeg none) a = 23 from ht)] at he9
  cases he9
  show H1[a]? = some (vp_cell _ _)
  rw [e, vp_cell_q, vp_cell_q]
  exact congrArg some (arr_upd va_rf _ _ _ (gO G) a none)
theorem va_S_more {A : Nat → Prop} {H0 H H1 : Heap} {locs : List Loc} (hS : va_S A H0 H locs) (z : H.size ≤ H1.size) (o1 : ∀ q, q < H.size → H1[q]? = H[q]?) : va_S A H0 H1 locs :=
  ⟨Nat.le_trans hS.1 z, fun x h1 h2 => (o1 x (Nat.lt_of_lt_of_le h1 hS.1)).trans (hS.2.1 x h1 h2), hS.2.2⟩
/-! new rows of numbers -/
theorem j_newI {i : Int32} (hn : ¬ i < 0) (hN : i.toNatClampNeg = n) (hs : n ≤ 100000) (hw : Cond.arrayClass .int ∈ gw) (hd : decode y.2.1 pc = .ok (.newarray .int, 2)) (kk : J E d y (pc + 2) L (.ref (gz G) :: st) (al G 20 n) Post) : J E d y pc L (.int i :: st) G Post := by
  refine j_make (G1 := al G 20 n) rfl rfl (fun _ _ _ _ _ args _ _ _ H _ _ _ _ ls fx hg hS hl hc hsl kk => ?_) kk
  refine va_newaK (atype := .int) fx.1 fx.2.1 (fx.2.2.2.2.2.1 _ hw) rfl hd rfl hn hN (by show n * 4 ≤ _; omega) hc hsl rfl fun H1 cA e1 z1 o1 hAr hNm => ?_
  have hcA : cA = eA E 20 := Option.some.inj (hNm.symm.trans (fx.2.2.2.2.2.2.2.2.2.1.2.1.2 0 _ rfl).2)
  subst hcA
  rw [hg.1]
  refine kk H1 (hg.push z1 rfl o1 (fun q hq => al_sm hq) (fun e9 he9 => ?_) (by rw [show gT (al G 20 n) (gz G) = 20 from if_pos rfl]; omega)) (va_S_more hS (by omega) o1) ls hl
  rw [cell_20 (show gT (al G 20 n) (gz G) = 20 from if_pos rfl)] at he9
  cases he9
  show H1[gz G]? = some (vp_cell _ _)
  rw [← hg.1, e1, vp_cell_i]
  have e4 : gN (al G 20 n) H.size = n := by rw [hg.1]; exact if_pos rfl
  have e5 : gA (al G 20 n) H.size = fun _ => 0 := by rw [hg.1]; exact funext fun j => if_pos rfl
  rw [e4, e5]
  rfl
theorem j_newZ {i : Int32} (hn : ¬ i < 0) (hN : i.toNatClampNeg = n) (hs : n ≤ 100000) (hw : Cond.arrayClass .boolean ∈ gw) (hd : decode y.2.1 pc = .ok (.newarray .boolean, 2)) (kk : J E d y (pc + 2) L (.ref (gz G) :: st) (al G 21 n) Post) : J E d y pc L (.int i :: st) G Post := by
  refine j_make (G1 := al G 21 n) rfl rfl (fun _ _ _ _ _ args _ _ _ H _ _ _ _ ls fx hg hS hl hc hsl kk => ?_) kk
  refine va_newaK (atype := .boolean) fx.1 fx.2.1 (fx.2.2.2.2.2.1 _ hw) rfl hd rfl hn hN (by show n * 1 ≤ _; omega) hc hsl rfl fun H1 cA e1 z1 o1 hAr hNm => ?_
  have hcA : cA = eA E 21 := Option.some.inj (hNm.symm.trans (fx.2.2.2.2.2.2.2.2.2.1.2.1.2 1 _ rfl).2)
  subst hcA
  rw [hg.1]
  refine kk H1 (hg.push z1 rfl o1 (fun q hq => al_sm hq) (fun e9 he9 => ?_) (by rw [show gT (al G 21 n) (gz G) = 21 from if_pos rfl]; omega)) (va_S_more hS (by omega) o1) ls hl
  rw [cell_21 (show gT (al G 21 n) (gz G) = 21 from if_pos rfl)] at he9
  cases he9
  show H1[gz G]? = some (vp_cell _ _)
  rw [← hg.1, e1, vp_cell_i]
  have e4 : gN (al G 21 n) H.size = n := by rw [hg.1]; exact if_pos rfl
  have e5 : gA (al G 21 n) H.size = fun _ => 0 := by rw [hg.1]; exact funext fun j => if_pos rfl
  rw [e4, e5]
  rfl
/-- a new row of objects (tag 23), or of sources (tag 24) -/
theorem j_newQ {i : Int32} {k t : Nat} {C : String} (hC : (C = "java/lang/Object" ∧ t = 23) ∨ (C = "SnowmeltStreams$Source" ∧ t = 24)) (hn : ¬ i < 0) (hN : i.toNatClampNeg = n) (hs : n ≤ 100000) (hw : Cond.classLink y.1.cls k C ∈ gw) (hd : decode y.2.1 pc = .ok (.anewarray k, 3)) (kk : J E d y (pc + 3) L (.ref (gz G) :: st) (al G t n) Post) : J E d y pc L (.int i :: st) G Post := by
  refine j_make (G1 := al G t n) rfl rfl (fun _ _ _ s _ args _ _ _ H _ _ _ _ ls fx hg hS hl hc hsl kk => ?_) kk
  have hK := fx.2.2.2.2.2.2.2.2.2.1
  have hover : va_AO C s := by
    rcases hC with ⟨rfl, -⟩ | ⟨rfl, -⟩
    · exact hK.2.2.2.2.2.2.2.1
    · exact hK.2.2.2.2.2.2.2.2.1.1
  subst hN
  refine W.anew fx.1 fx.2.1 fx.2.2.2.2.1 (fx.2.2.2.2.2.1 _ hw) (va_AO.use hover) rfl hd rfl hn (by omega) hc hsl fun cA kA comp f1 f2 f3 f4 => ?_
  generalize hH1 : H.push ({ cls := cA, slots := Array.replicate i.toNatClampNeg .null, vm := .none } : Cell) = H1
  have z1 : H1.size = H.size + 1 := by rw [← hH1, Array.size_push]
  have e1 : H1[H.size]? = some (arrV cA i.toNatClampNeg (fun _ => .null)) := by rw [← hH1, Array.getElem?_push_size, ← arrV_new]
  have o1 : ∀ q : Nat, q < H.size → H1[q]? = H[q]? := fun q hq => by rw [← hH1, Array.getElem?_push, if_neg (Nat.ne_of_lt hq)]
  rw [hg.1]
  refine kk H1 (hg.push z1 rfl o1 (fun q hq => al_sm hq) (fun e9 he9 => ?_) (by rw [show gT (al G t i.toNatClampNeg) (gz G) = t from if_pos rfl]; rcases hC with ⟨-, h9⟩ | ⟨-, h9⟩ <;> omega)) (va_S_more hS (by omega) o1) ls hl
  have e4 : gN (al G t i.toNatClampNeg) (gz G) = i.toNatClampNeg := if_pos rfl
  have e5 : gO (al G t i.toNatClampNeg) (gz G) = fun _ => none := funext fun j => if_pos rfl
  have e6 : gT (al G t i.toNatClampNeg) (gz G) = t := if_pos rfl
  rcases hC with ⟨rfl, rfl⟩ | ⟨rfl, rfl⟩
  · obtain ⟨kA', comp', k1, k2, k3, k4⟩ := (hK.2.1.2 3 _ rfl).2
    have hcA : cA = eA E 23 := Option.some.inj (f1.symm.trans k4)
    subst hcA
    rw [cell_23 e6] at he9
    cases he9
    show H1[gz G]? = some (vp_cell _ _)
    rw [← hg.1, e1, vp_cell_q, hg.1, e4, e5]
    rfl
  · obtain ⟨kA', comp', k1, k2, k3, k4⟩ := (hK.2.1.2 4 _ rfl).2
    have hcA : cA = eA E 24 := Option.some.inj (f1.symm.trans k4)
    subst hcA
    rw [cell_24 e6] at he9
    cases he9
    show H1[gz G]? = some (vp_cell _ _)
    rw [← hg.1, e1, vp_cell_q, hg.1, e4, e5]
    rfl
/-- a new object of the class ci -/
def NE (own : String) (i ci : Nat) : Prop := ∃ q : vw_C, kcl[ci]? = some q ∧ Cond.classLink own i q.1 ∈ gw ∧ Cond.instantiable q.1 q.2.2 ∈ gw ∧ Cond.initialized q.1 ∈ gw
theorem j_new {ci k : Nat} (ne : NE y.1.cls k ci) (hN : nF ci = n) (hty : ∀ j, j < n → tyF ci j = .int ∨ tyF ci j = .boolean ∨ isR ci j = true) (hd : decode y.2.1 pc = .ok (.new k, 3)) (kk : J E d y (pc + 3) L (.ref (gz G) :: st) (al G (ci + 1) n) Post) : J E d y pc L st G Post := by
  obtain ⟨⟨C, T, N⟩, hc, w1, w2, w3⟩ := ne
  obtain ⟨z1, z2, z3, z4, z5⟩ := kcl_ok ci _ hc
  dsimp only at z1 z2 z3 z4 w1 w2 w3
  have hNn : N = n := z4.trans hN
  subst hNn
  refine j_make (G1 := al G (ci + 1) N) rfl rfl (fun _ _ _ _ _ args _ _ _ H _ _ _ _ ls fx hg hS hl hcl hsl kk => ?_) kk
  have hK := fx.2.2.2.2.2.2.2.2.2.1.2.1
  have hts := fx.2.2.2.2.2.1
  have hKn := hK.1 ci _ hc
  refine W.newcK fx.1 fx.2.1 fx.2.2.2.2.1 (hts _ w1) (hts _ w2) (hts _ w3) rfl hd hcl hsl hKn.2.1 rfl fun H1 kC hkC e1 zz o1 => ?_
  rw [hg.1]
  refine kk H1 (hg.push zz rfl o1 (fun q hq => al_sm hq) (fun e9 he9 => ?_) (by rw [show gT (al G (ci + 1) N) (gz G) = ci + 1 from if_pos rfl]; omega)) (va_S_more hS (by omega) o1) ls hl
  rw [cell_obj (show gT (al G (ci + 1) N) (gz G) = ci + 1 from if_pos rfl) z5] at he9
  cases he9
  rw [← hg.1]
  refine ⟨_, hc, (u_born (tyF ci) hts z1 hKn hkC e1 z3).to (fun j hj => ?_)⟩
  have hj' : j < nF ci := by rw [hN]; exact hj
  rw [flds_V hj', hg.1]
  have g1 : gI (al G (ci + 1) N) (64 * ci + j) (gz G) = 0 := if_pos rfl
  have g2 : gR (al G (ci + 1) N) (64 * ci + j) (gz G) = none := if_pos rfl
  rcases hty j hj with h | h | h
  · rw [fv_int (by unfold isR; rw [h]; rfl), h, g1]; rfl
  · rw [fv_int (by unfold isR; rw [h]; rfl), h, g1]; rfl
  · rw [fv_ref h, g2]
    unfold isR at h
    cases ht : tyF ci j <;> rw [ht] at h <;> first | rfl | (simp [isRt] at h)
/-! casts -/
theorem j_cast {ci k : Nat} {q : vw_C} (hc : kcl[ci]? = some q) (hw : Cond.classLink y.1.cls k q.1 ∈ gw) (ht : gT G a = ci + 1) (hd : decode y.2.1 pc = .ok (.checkcast k, 3)) (kk : J E d y (pc + 3) L (.ref a :: st) G Post) : J E d y pc L (.ref a :: st) G Post := by
  refine j_step (fun _ _ _ _ _ _ _ _ _ _ _ _ _ _ ls fx hg _ hl _ _ _ _ kk => ?_) kk
  have hK := fx.2.2.2.2.2.2.2.2.2.1.2.1
  exact va_castS fx.1 fx.2.1 fx.2.2.2.2.1 (fx.2.2.2.2.2.1 _ hw) (hK.1 ci q hc).2 (va_recv hK (hg.one (cell_obj ht (kcl_ok ci q hc).2.2.2.2)) (q0 := 0) hc rfl) hd (kk ls hl)
theorem j_castN {k : Nat} (hd : decode y.2.1 pc = .ok (.checkcast k, 3)) (kk : J E d y (pc + 3) L (.null :: st) G Post) : J E d y pc L (.null :: st) G Post :=
  j_step (fun _ _ _ _ _ _ _ _ _ _ _ _ _ _ ls fx _ _ hl _ _ _ _ kk => lv_castN fx.1 fx.2.1 hd (kk ls hl)) kk
end JROWS4
