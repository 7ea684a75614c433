/-- a window's fields are copied -/
theorem wr_copy0 {G G3 G6 : GH} {o : Nat → Nat} {a b r : Nat} (hw : Wf G) (hb : o b = r)
    (h3 : G3 = sI (sI (sI (sI G 448 b (gI G 448 a)) 449 b (gI G 449 a)) 450 b (gI G 450 a)) 451 b (gI G 451 a))
    (h6 : G6 = sI (sI G3 452 b (gI G 452 a)) 453 b (gI G 453 a)) :
    Stq [r] G o G6 o ∧ gz G6 = gz G ∧ gs G6 = gs G ∧ rW G6 b = rW G a ∧ (∀ q, q ≠ b → Sm G G6 q) ∧ (∀ f q, gR G6 f q = gR G f q) := by
  have r3 : ∀ f q, gI G3 f q = if f = 451 ∧ q = b then gI G 451 a else if f = 450 ∧ q = b then gI G 450 a else if f = 449 ∧ q = b then gI G 449 a else if f = 448 ∧ q = b then gI G 448 a else gI G f q := fun f q => by rw [h3]; rfl
  have r6 : ∀ f q, gI G6 f q = if f = 453 ∧ q = b then gI G 453 a else if f = 452 ∧ q = b then gI G 452 a else gI G3 f q := fun f q => by rw [h6]; rfl
  have hb' : b < gz G → o b ∈ [r] := fun _ => by rw [hb]; exact in1
  have s3 : Stq [r] G o G3 o := by rw [h3]; exact ((((Stq.rf hw).wI hb').wI hb').wI hb').wI hb'
  refine ⟨by rw [h6]; exact (s3.wI hb').wI hb', by rw [h6, h3]; rfl, by rw [h6, h3]; rfl, ?_, fun q h1 => ?_, fun f q => by rw [h6, h3]; rfl⟩
  · have m : ∀ f, f ≠ 453 → f ≠ 452 → gI G6 f b = gI G3 f b := fun f x1 x2 => by
      rw [r6, if_neg (fun z => x1 z.1), if_neg (fun z => x2 z.1)]
    refine rW_mk ?_ ?_ ?_ ?_ ?_ ?_
    · rw [m 448 (by omega) (by omega), r3, if_neg (fun z => absurd z.1 (by omega)), if_neg (fun z => absurd z.1 (by omega)), if_neg (fun z => absurd z.1 (by omega)), if_pos ⟨rfl, rfl⟩]
    · rw [m 449 (by omega) (by omega), r3, if_neg (fun z => absurd z.1 (by omega)), if_neg (fun z => absurd z.1 (by omega)), if_pos ⟨rfl, rfl⟩]
    · rw [m 450 (by omega) (by omega), r3, if_neg (fun z => absurd z.1 (by omega)), if_pos ⟨rfl, rfl⟩]
    · rw [m 451 (by omega) (by omega), r3, if_pos ⟨rfl, rfl⟩]
    · rw [r6, if_neg (fun z => absurd z.1 (by omega)), if_pos ⟨rfl, rfl⟩]
    · rw [r6, if_pos ⟨rfl, rfl⟩]
  · rw [h6, h3]
    exact (((((sI_sm h1).tr (sI_sm h1)).tr (sI_sm h1)).tr (sI_sm h1)).tr (sI_sm h1)).tr (sI_sm h1)
theorem WsR.cp {E : EV} {G G6 : GH} {o : Nat → Nat} {ws lr lp p : Nat} {rows spare : List Nat} (h : WsR E G o ws lr lp rows spare p) (hw : Wf G) (st : Stq [ws] G o G6 o) (hR : ∀ f q, gR G6 f q = gR G f q) (hf : ∀ x ∈ rows ++ spare, gI G6 453 x = 0 ∨ gI G6 453 x = 1) : WsR E G6 o ws lr lp rows spare p := by
  have ne := h.ne
  obtain ⟨a1, a2, a3, a4, a5, a6, cr, cp, a7, a8, a9⟩ := h
  exact ⟨st.tg' hw a1 (by omega), a2, (hR _ _).trans a3, (hR _ _).trans a4, a5, ⟨a6.1, fun x hx => ⟨st.tg' hw (a6.2 x hx).1 (by omega), (a6.2 x hx).2.1, hf x hx⟩⟩, cr, cp, a7.stp hw st (by rw [List.mem_singleton]; exact ne.1), a8.stp hw st (by rw [List.mem_singleton]; exact ne.2.1), a9⟩
/-- the first loop: rows too many go to the spare ones -/
theorem c_wc_loop1 {E : EV} {Post : Res → GH → Prop} {wa la pa wb lb pb : Nat} {rowsB spareB : List Nat} {pB : Nat} (hd : wb ∉ [wa, la, pa] ∧ lb ∉ [wa, la, pa] ∧ pb ∉ [wa, la, pa]) :
    ∀ (m : Nat) (G : GH) (o : Nat → Nat) (p : Nat) (rows spare : List Nat), rows.length ≤ rowsB.length + m → WsR E G o wa la pa rows spare p → WsR E G o wb lb pb rowsB spareB pB → Wf G → rows.length + spare.length ≤ 2999 →
    (∀ G' o' p' rows' spare', WsR E G' o' wa la pa rows' spare' p' → rows'.length ≤ rowsB.length → Stq [wa, la, pa] G o G' o' → Cs G p G' p' → rows'.length + spare'.length = rows.length + spare.length → J E 7 m_Ws_copyFrom 48 [some (.ref wa), some (.ref wb), some (.int 0)] [] G' Post) →
    J E 7 m_Ws_copyFrom 10 [some (.ref wa), some (.ref wb), some (.int (nI rows.length - 1))] [] G Post := by
  intro m
  induction m with
  | zero =>
    intro G o p rows spare hm hA hB hw hl k
    obtain ⟨b1, b2, b3, b4, b5, b6, br, bp, b7, b8, b9⟩ := id hB
    have hle := b7.le
    refine wp_Ws_copyFrom_10 wa wb (nI rows.length - 1) ⟨b1, lb, b3, b7.tg, ?_⟩
    have hlt : nI rows.length - 1 < nI rowsB.length := by
      rcases Nat.eq_zero_or_pos rows.length with h | h
      · rw [h]
        have e : nI 0 - 1 = (-1 : Int32) := by decide +kernel
        rw [e]
        exact Int32.lt_iff_toInt_lt.mpr (by rw [nI_toInt (by omega)]; have : (-1 : Int32).toInt = -1 := by decide +kernel
                                            omega)
      · rw [show nI rows.length - 1 = nI (rows.length - 1) from nI_sub (b := 1) h]
        exact nI_lt (by omega) (by omega)
    rw [b7.sz]
    exact ⟨fun _ => k G o p rows spare hA (by omega) (Stq.rf hw) Cs.rf rfl, fun c => absurd hlt c⟩
  | succ m ih =>
    intro G o p rows spare hm hA hB hw hl k
    by_cases hc : rows.length ≤ rowsB.length + m
    · exact ih G o p rows spare hc hA hB hw hl k
    obtain ⟨b1, b2, b3, b4, b5, b6, br, bp, b7, b8, b9⟩ := id hB
    obtain ⟨a1, a2, a3, a4, a5, a6, cr, cp, a7, a8, a9⟩ := id hA
    have ne := hA.ne
    have hle := b7.le
    have hpos : 0 < rows.length := by omega
    refine wp_Ws_copyFrom_10 wa wb (nI rows.length - 1) ⟨b1, lb, b3, b7.tg, ?_⟩
    have e1 : nI rows.length - 1 = nI (rows.length - 1) := nI_sub (b := 1) hpos
    rw [b7.sz, e1, nI_ltI (by omega) (by omega)]
    refine ⟨fun c => absurd c (by omega), fun _ => ⟨a1, pa, a4, la, a3, a7.tg, ?_⟩⟩
    obtain ⟨b, hb⟩ : ∃ b, rows[rows.length - 1]? = some b := ⟨_, List.getElem?_eq_getElem (by omega)⟩
    have hbm : b ∈ rows := List.mem_of_getElem? hb
    refine c_AL_remove a7 hw (fun x hx => a6.ob x (List.mem_append_left _ hx)) hb (fun G1 hla st hz hgs => ?_)
    have hsplit : (rows.eraseIdx (rows.length - 1)) ++ [b] = rows := by
      have q1 := List.eraseIdx_eq_dropLast (l := rows) (i := rows.length - 1) (by omega)
      have hne : rows ≠ [] := fun z => by rw [z] at hpos; exact absurd hpos (by decide)
      have q2 : b = rows.getLast hne := by
        have := List.getLast_eq_getElem hne
        rw [List.getElem?_eq_getElem (by omega)] at hb
        rw [this]; exact (Option.some.inj hb).symm
      rw [q1, q2]
      exact List.dropLast_concat_getLast hne
    generalize hR : rows.eraseIdx (rows.length - 1) = rows' at *
    have hlen : rows'.length + 1 = rows.length := by rw [← hsplit]; simp
    have wsl : wa ∉ [la] ∧ pa ∉ [la] := by simp; exact ⟨fun z => ne.1 z.symm, fun z => ne.2.2 z.symm⟩
    have wn1 := a6.stp hw st wsl.1
    have lp1 := a8.stp hw st wsl.2
    have tb1 := wn1.2 b (List.mem_append_left _ hbm)
    refine wp_Ws_copyFrom_33 wa wb (nI (rows.length - 1)) pa b ⟨tb1.1, lp1.tg, ?_⟩
    refine c_AL_add lp1 st.wf (fun x hx => wn1.ob x (List.mem_append_right _ hx)) (OB.of8 tb1.1) (by omega) (fun G2 o2 c2 hlp st2 cs2 => ?_)
    have wsl2 : wa ∉ [pa] ∧ la ∉ [pa] := by simp; exact ⟨fun z => ne.2.1 z.symm, ne.2.2⟩
    have hperm : (rows ++ spare).Perm (rows' ++ (spare ++ [b])) := by
      rw [← hsplit]
      have p1 : ((rows' ++ [b]) ++ spare).Perm (b :: rows' ++ spare) := (List.perm_append_singleton b rows').append_right spare
      have p2 : (rows' ++ (spare ++ [b])).Perm (b :: (rows' ++ spare)) := by rw [← List.append_assoc]; exact List.perm_append_singleton b _
      exact p1.trans p2.symm
    have wn2 := (wn1.perm hperm).stp st.wf st2 wsl2.1
    have wz : wa < gz G := hw _ (by omega)
    have wz1 : wa < gz G1 := by omega
    have sw1 := st.sm wz (by rw [a2]; exact wsl.1)
    have sw2 := st2.sm wz1 (by rw [a2]; exact wsl2.1)
    have s2 : Stq [wa, la, pa] G o G2 o2 := (st.mono (by simp)).tr (st2.mono (by simp))
    have hA2 : WsR E G2 o2 wa la pa rows' (spare ++ [b]) (rows'.length + (spare ++ [b]).length + cr + c2) :=
      ⟨by rw [sw2.1, sw1.1]; exact a1, (st2.ow wz1).trans a2, by rw [sw2.2.2.2.1, sw1.2.2.2.1]; exact a3, by rw [sw2.2.2.2.1, sw1.2.2.2.1]; exact a4, ne.2.2, wn2, cr, c2, hla.stp st.wf st2 wsl2.2, hlp, rfl⟩
    have hB2 := hB.stp hw s2 hd.1 hd.2.1 hd.2.2
    refine wp_Ws_copyFrom_39 wa wb (nI (rows.length - 1)) 1 ?_
    have e2 : nI (rows.length - 1) + (-1 : Int32) = nI rows'.length - 1 := by
      rw [← hlen, Nat.add_sub_cancel, Int32.sub_eq_add_neg]
    rw [e2]
    refine ih G2 o2 _ rows' (spare ++ [b]) (by omega) hA2 hB2 st2.wf (by simp; omega) (fun G' o' p' r' sp' y1 y2 y3 y4 y5 => k G' o' p' r' sp' y1 y2 (s2.tr y3) (Cs.tr ?_ y4) (by rw [y5]; simp; omega))
    have v1 := cs2.1
    have v2 := cs2.2
    have le2 : (spare ++ [b]).length = spare.length + 1 := by simp
    exact ⟨by omega, by omega⟩
theorem take_succ' {rows : List Nat} {i b : Nat} (h : rows[i]? = some b) : rows.take (i + 1) = rows.take i ++ [b] := by
  rw [List.take_succ, h]; rfl
/-- the second loop -/
theorem c_wc_loop2 {E : EV} {Post : Res → GH → Prop} {wa la pa wb lb pb : Nat} {rowsB spareB : List Nat} {pB : Nat} (hd : wb ∉ [wa, la, pa] ∧ lb ∉ [wa, la, pa] ∧ pb ∉ [wa, la, pa]) (hBl : rowsB.length ≤ 2990) :
    ∀ (m i : Nat) (G : GH) (o : Nat → Nat) (p : Nat) (rows spare : List Nat), m + i = rowsB.length → i ≤ rows.length → rows.length ≤ rowsB.length → WsR E G o wa la pa rows spare p → WsR E G o wb lb pb rowsB spareB pB → Wf G → (rows.take i).map (rW G) = (rowsB.take i).map (rW G) →
    (∀ G' o' p' rows' spare', WsR E G' o' wa la pa rows' spare' p' → rows'.map (rW G') = rowsB.map (rW G) → Stq [wa, la, pa] G o G' o' → Cs G p G' p' → rows'.length + spare'.length ≤ max (rows.length + spare.length) rowsB.length → Post (.inl none) G') →
    J E 7 m_Ws_copyFrom 48 [some (.ref wa), some (.ref wb), some (.int (nI i))] [] G Post := by
  intro m
  induction m with
  | zero =>
    intro i G o p rows spare hmi hi hle hA hB hw hmap k
    obtain ⟨b1, b2, b3, b4, b5, b6, br, bp, b7, b8, b9⟩ := id hB
    refine wp_Ws_copyFrom_48 wa wb (nI i) ⟨b1, lb, b3, b7.tg, ?_⟩
    rw [b7.sz, nI_leI (by omega) (by omega)]
    refine ⟨fun _ => k G o p rows spare hA ?_ (Stq.rf hw) Cs.rf (Nat.le_max_left _ _), fun c => absurd (by omega) c⟩
    rw [List.take_of_length_le (by omega), List.take_of_length_le (by omega)] at hmap
    exact hmap
  | succ m ih =>
    intro i G o p rows spare hmi hi hle hA hB hw hmap k
    obtain ⟨b1, b2, b3, b4, b5, b6, br, bp, b7, b8, b9⟩ := id hB
    obtain ⟨a1, a2, a3, a4, a5, a6, cr, cp, a7, a8, a9⟩ := id hA
    have ne := hA.ne
    obtain ⟨s, hs⟩ : ∃ s, rowsB[i]? = some s := ⟨_, List.getElem?_eq_getElem (by omega)⟩
    have hsm : s ∈ rowsB := List.mem_of_getElem? hs
    -- the copy itself, at a heap where the row is there
    have copy : ∀ (G1 : GH) (o1 : Nat → Nat) (p1 : Nat) (rows1 spare1 : List Nat) (d : Nat), WsR E G1 o1 wa la pa rows1 spare1 p1 → rows1[i]? = some d → rows1.length ≤ rowsB.length → Stq [wa, la, pa] G o G1 o1 → Cs G p G1 p1 → rows1.length + spare1.length ≤ max (rows.length + spare.length) rowsB.length → (rows1.take i).map (rW G1) = (rowsB.take i).map (rW G) →
        ∀ G15, G15 = sI (sI (sI (sI G1 448 d (gI G1 448 s)) 449 d (gI G1 449 s)) 450 d (gI G1 450 s)) 451 d (gI G1 451 s) → (gI G1 453 s = 0 ∨ gI G1 453 s = 1) ∧ J E 7 m_Ws_copyFrom 48 [some (.ref wa), some (.ref wb), some (.int (nI (i + 1)))] [] (sI (sI G15 452 d (gI G1 452 s)) 453 d (gI G1 453 s)) Post := by
      intro G1 o1 p1 rows1 spare1 d hA1 hdd hle1 s1 cs1 hT hmap1 G15 h15
      have hB1 := hB.stp hw s1 hd.1 hd.2.1 hd.2.2
      have hdm := List.mem_of_getElem? hdd
      have td := hA1.2.2.2.2.2.1.2 d (List.mem_append_left _ hdm)
      have ts := hB1.2.2.2.2.2.1.2 s (List.mem_append_left _ hsm)
      have hsd : s ≠ d := fun z => by
        have e1 : wb = wa := by rw [← ts.2.1, z, td.2.1]
        exact hd.1 (by rw [e1]; exact List.mem_cons_self)
      obtain ⟨q1, q2, q3, q4, q6, q7⟩ := wr_copy0 (r := wa) s1.wf td.2.1 h15 rfl
      refine ⟨ts.2.2, ?_⟩
      have hA2 := hA1.cp s1.wf q1 q7 (fun x hx => by
        by_cases c : x = d
        · rw [c]
          have e1 : wO (rW (sI (sI G15 452 d (gI G1 452 s)) 453 d (gI G1 453 s)) d) = wO (rW G1 s) := by rw [q4]
          have e2 : gI (sI (sI G15 452 d (gI G1 452 s)) 453 d (gI G1 453 s)) 453 d = gI G1 453 s := e1
          rw [e2]; exact ts.2.2
        · rw [(q6 x c).2.2.1]; exact (hA1.2.2.2.2.2.1.2 x hx).2.2)
      generalize sI (sI G15 452 d (gI G1 452 s)) 453 d (gI G1 453 s) = G6 at *
      have s6 : Stq [wa, la, pa] G o G6 o1 := s1.tr (q1.mono (by simp))
      have hB6 := hB.stp hw s6 hd.1 hd.2.1 hd.2.2
      have mB : ∀ H, ∀ oo, Stq [wa, la, pa] G o H oo → ∀ xs : List Nat, (∀ x ∈ xs, x ∈ rowsB) → xs.map (rW H) = xs.map (rW G) := fun H oo st xs hxs => List.map_congr_left (fun x hx => by
        have tx := b6.2 x (List.mem_append_left _ (hxs x hx))
        exact rW_sm (st.sm (hw x (by omega)) (by rw [tx.2.1]; exact hd.1)))
      have nd1 : rows1.Nodup := (List.nodup_append.mp hA1.2.2.2.2.2.1.1).1
      have hil : i < rows1.length := (List.getElem?_eq_some_iff.mp hdd).1
      refine ih (i + 1) G6 o1 p1 rows1 spare1 (by omega) (by omega) hle1 hA2 hB6 q1.wf ?_ (fun G' o' p' r' sp' y1 y2 y3 y4 y5 => k G' o' p' r' sp' y1 (y2.trans (mB G6 o1 s6 rowsB (fun _ h => h))) (s6.tr y3) ((show Cs G p G6 p1 from ⟨by rw [q2]; exact cs1.1, by rw [q3]; exact cs1.2⟩).tr y4) (by omega))
      rw [take_succ' hdd, take_succ' hs, List.map_append, List.map_append, mB G6 o1 s6 _ (fun x hx => List.mem_of_mem_take hx)]
      have e1 : (rows1.take i).map (rW G6) = (rows1.take i).map (rW G1) := List.map_congr_left (fun x hx => rW_sm (q6 x (fun z => by
        obtain ⟨j, hj, he⟩ := List.getElem_of_mem hx
        rw [List.length_take] at hj
        rw [List.getElem_take] at he
        have h1 : rows1[j] = rows1[i] := by rw [he, z]; exact (Option.some.inj ((List.getElem?_eq_getElem hil).symm.trans hdd)).symm
        have := (List.getElem_inj nd1).mp h1
        omega)))
      rw [e1, hmap1]
      have e2 : [d].map (rW G6) = [s].map (rW G6) := by
        show [rW G6 d] = [rW G6 s]
        rw [q4, rW_sm (q6 s hsd)]
      rw [e2]
    have ts := b6.2 s (List.mem_append_left _ hsm)
    refine wp_Ws_copyFrom_48 wa wb (nI i) ⟨b1, lb, b3, b7.tg, ?_⟩
    rw [b7.sz, nI_leI (by omega) (by omega)]
    refine ⟨fun c => absurd c (by omega), fun _ => ⟨a1, la, a3, a7.tg, ?_⟩⟩
    rw [a7.sz, nI_ltI (by omega) (by omega), nI_1]
    refine ⟨fun hlt => ?_, fun hge => ?_⟩
    · obtain ⟨d, hdd⟩ : ∃ d, rows[i]? = some d := ⟨_, List.getElem?_eq_getElem hlt⟩
      exact ⟨d, a7.lg hdd, (a6.2 d (List.mem_append_left _ (List.mem_of_getElem? hdd))).1, s, b7.lg hs, ts.1, copy G o p rows spare d hA hdd hle (Stq.rf hw) Cs.rf (Nat.le_max_left _ _) hmap⟩
    · have hir : i = rows.length := by omega
      refine c_unusedRow hA hw (fun G1 o1 d sp1 p1 y1 y2 y3 y4 y5 y6 y7 y8 => ?_)
      obtain ⟨d1, d2, d3, d4, d5, d6, dr, dp, d7, d8, d9⟩ := id y1
      refine wp_Ws_copyFrom_78 wa wb (nI i) la d ⟨d7.tg, ?_⟩
      refine c_AL_add d7 y6.wf (fun x hx => d6.ob x (List.mem_append_left _ hx)) (OB.of8 y3) (by omega) (fun G2 o2 c2 hla st2 cs2 => ?_)
      have wsl2 : wa ∉ [la] ∧ pa ∉ [la] := by simp; exact ⟨fun z => ne.1 z.symm, fun z => ne.2.2 z.symm⟩
      have s1 : Stq [wa, la, pa] G o G1 o1 := y6.mono (by simp)
      have s2 : Stq [wa, la, pa] G o G2 o2 := s1.tr (st2.mono (by simp))
      have wz1 : wa < gz G1 := y6.wf _ (by omega)
      have sw2 := st2.sm wz1 (by rw [d2]; exact wsl2.1)
      have wnd : Wn G1 o1 wa ((rows ++ [d]) ++ sp1) := by
        have hp : (d :: (rows ++ sp1)).Perm ((rows ++ [d]) ++ sp1) := by
          rw [List.append_assoc]
          exact List.perm_middle.symm
        exact Wn.perm ⟨List.nodup_cons.mpr ⟨y2, d6.1⟩, fun x hx => by
          rcases List.mem_cons.mp hx with hx | hx
          · rw [hx]; exact ⟨y3, y4, y5⟩
          · exact d6.2 x hx⟩ hp
      have hA2 : WsR E G2 o2 wa la pa (rows ++ [d]) sp1 ((rows ++ [d]).length + sp1.length + c2 + dp) :=
        ⟨by rw [sw2.1]; exact d1, (st2.ow wz1).trans d2, by rw [sw2.2.2.2.1]; exact d3, by rw [sw2.2.2.2.1]; exact d4, ne.2.2, wnd.stp y6.wf st2 wsl2.1, c2, dp, hla, d8.stp y6.wf st2 wsl2.2, rfl⟩
      have hB2 := hB.stp hw s2 hd.1 hd.2.1 hd.2.2
      have hdd : (rows ++ [d])[i]? = some d := by rw [hir]; exact List.getElem?_concat_length
      have hlen1 : (rows ++ [d]).length = rows.length + 1 := by simp
      refine wp_Ws_copyFrom_81 wa wb (nI i) 1 ⟨hA2.1, la, hA2.2.2.1, hla.tg, d, hla.lg hdd, (hA2.2.2.2.2.2.1.2 d (by simp)).1, hB2.1, lb, hB2.2.2.1, (s2.tg' hw b7.tg (by omega)), s, ?_, (hB2.2.2.2.2.2.1.2 s (List.mem_append_left _ hsm)).1, ?_⟩
      · exact (b7.stp hw s2 hd.2.1).lg hs
      · rw [nI_1]
        refine copy G2 o2 _ (rows ++ [d]) sp1 d hA2 hdd (by omega) s2 ?_ (by omega) ?_
        · have v1 := y7.1
          have v2 := y7.2
          have v3 := cs2.1
          have v4 := cs2.2
          exact ⟨by omega, by omega⟩
        · rw [List.take_append_of_le_length (by omega), ← hmap]
          refine List.map_congr_left (fun x hx => ?_)
          have tx := a6.2 x (List.mem_append_left _ (List.mem_of_mem_take hx))
          have e1 : rW G1 x = rW G x := rW_sm (y6.sm (hw x (by omega)) (by rw [tx.2.1, List.mem_singleton]; exact fun z => ne.2.1 z.symm))
          have tx1 := d6.2 x (List.mem_append_left _ (List.mem_of_mem_take hx))
          rw [← e1]
          exact rW_sm (st2.sm (y6.wf x (by omega)) (by rw [tx1.2.1]; exact wsl2.1))
theorem c_WsCopy {E : EV} {G : GH} {Post : Res → GH → Prop} {o : Nat → Nat} {wa la pa wb lb pb p pB : Nat} {rows spare rowsB spareB : List Nat} (hA : WsR E G o wa la pa rows spare p) (hB : WsR E G o wb lb pb rowsB spareB pB) (hw : Wf G) (hd : wb ∉ [wa, la, pa] ∧ lb ∉ [wa, la, pa] ∧ pb ∉ [wa, la, pa]) (hl : rows.length + spare.length ≤ 2999) (hBl : rowsB.length ≤ 2990)
    (k : ∀ G' o' p' rows' spare', WsR E G' o' wa la pa rows' spare' p' → rows'.map (rW G') = rowsB.map (rW G) → Stq [wa, la, pa] G o G' o' → Cs G p G' p' → rows'.length + spare'.length ≤ max (rows.length + spare.length) rowsB.length → Post (.inl none) G') : Cl E 7 m_Ws_copyFrom [.ref wa, .ref wb] G Post := by
  have hA' := hA
  obtain ⟨a1, a2, a3, a4, a5, a6, cr, cp, a7, a8, a9⟩ := hA'
  refine j_enter (L := [some (.ref wa), some (.ref wb), none]) me_Ws_copyFrom (cat_c rfl (cat_c rfl cat_n)) (Nat.le_of_ble_eq_true rfl) rfl (wp_Ws_copyFrom_0 wa wb ⟨a1, la, a3, a7.tg, ?_⟩)
  rw [a7.sz]
  refine c_wc_loop1 hd rows.length G o p rows spare (by omega) hA hB hw hl (fun G1 o1 p1 r1 sp1 y1 y2 y3 y4 y5 => ?_)
  have hB1 := hB.stp hw y3 hd.1 hd.2.1 hd.2.2
  refine c_wc_loop2 hd hBl rowsB.length 0 G1 o1 p1 r1 sp1 rfl (Nat.zero_le _) y2 y1 hB1 y3.wf rfl (fun G' o' p' r' sp' z1 z2 z3 z4 z5 => k G' o' p' r' sp' z1 ?_ (y3.tr z3) (y4.tr z4) (by omega))
  rw [z2]
  exact (hB.2.2.2.2.2.1.sub (List.sublist_append_left _ _)).map hw y3 hd.1
