/-- a copy of the window's row -/
theorem rW_mk {G : GH} {a : Nat} {k s e c m x : Int32} (h1 : gI G 448 a = k) (h2 : gI G 449 a = s) (h3 : gI G 450 a = e) (h4 : gI G 451 a = c) (h5 : gI G 452 a = m) (h6 : gI G 453 a = x) : rW G a = (k, s, e, c, m, x) := by
  unfold rW
  rw [h1, h2, h3, h4, h5, h6]
/-- what is written, read through the copy -/
theorem wr_copy {S : List Nat} {G G3 G6 : GH} {o : Nat → Nat} {a b si : Nat} {v : Int32} (hw : Wf G) (hb : o b ∈ S) (hs : o si ∈ S)
    (h3 : G3 = sI (sI (sI (sI G 448 b (gI G 448 a)) 449 b (gI G 449 a)) 450 b (gI G 450 a)) 451 b (gI G 451 a))
    (h6 : G6 = sI (sI (sI G3 452 b (gI G 452 a)) 453 b (gI G 453 a)) 323 si v) :
    Stq S G o G6 o ∧ gz G6 = gz G ∧ gs G6 = gs G ∧ rW G6 b = rW G a ∧ gI G6 323 si = v ∧ (∀ q, q ≠ b → q ≠ si → Sm G G6 q) ∧ (∀ f q, q ≠ b → ¬ (f = 323 ∧ q = si) → gI G6 f q = gI G f q) ∧ (∀ f q, gR G6 f q = gR G f q) ∧ (∀ q, gT G6 q = gT G q) := by
  have r3 : ∀ f q, gI G3 f q = if f = 451 ∧ q = b then gI G 451 a else if f = 450 ∧ q = b then gI G 450 a else if f = 449 ∧ q = b then gI G 449 a else if f = 448 ∧ q = b then gI G 448 a else gI G f q := fun f q => by rw [h3]; rfl
  have r6 : ∀ f q, gI G6 f q = if f = 323 ∧ q = si then v else if f = 453 ∧ q = b then gI G 453 a else if f = 452 ∧ q = b then gI G 452 a else gI G3 f q := fun f q => by rw [h6]; rfl
  have hb' : b < gz G → o b ∈ S := fun _ => hb
  have hs' : si < gz G → o si ∈ S := fun _ => hs
  have s3 : Stq S G o G3 o := by rw [h3]; exact ((((Stq.rf hw).wI hb').wI hb').wI hb').wI hb'
  refine ⟨by rw [h6]; exact ((s3.wI hb').wI hb').wI hs', by rw [h6, h3]; rfl, by rw [h6, h3]; rfl, ?_, ?_, fun q h1 h2 => ?_, fun f q h1 h2 => ?_, fun f q => by rw [h6, h3]; rfl, fun q => by rw [h6, h3]; rfl⟩
  · have m : ∀ f, ¬ (f = 323 ∧ b = si) → f ≠ 453 → f ≠ 452 → gI G6 f b = gI G3 f b := fun f x0 x1 x2 => by
      rw [r6, if_neg x0, if_neg (fun z => x1 z.1), if_neg (fun z => x2 z.1)]
    refine rW_mk ?_ ?_ ?_ ?_ ?_ ?_
    · rw [m 448 (fun z => absurd z.1 (by omega)) (by omega) (by omega), r3, if_neg (fun z => absurd z.1 (by omega)), if_neg (fun z => absurd z.1 (by omega)), if_neg (fun z => absurd z.1 (by omega)), if_pos ⟨rfl, rfl⟩]
    · rw [m 449 (fun z => absurd z.1 (by omega)) (by omega) (by omega), r3, if_neg (fun z => absurd z.1 (by omega)), if_neg (fun z => absurd z.1 (by omega)), if_pos ⟨rfl, rfl⟩]
    · rw [m 450 (fun z => absurd z.1 (by omega)) (by omega) (by omega), r3, if_neg (fun z => absurd z.1 (by omega)), if_pos ⟨rfl, rfl⟩]
    · rw [m 451 (fun z => absurd z.1 (by omega)) (by omega) (by omega), r3, if_pos ⟨rfl, rfl⟩]
    · rw [r6, if_neg (fun z => absurd z.1 (by omega)), if_neg (fun z => absurd z.1 (by omega)), if_pos ⟨rfl, rfl⟩]
    · rw [r6, if_neg (fun z => absurd z.1 (by omega)), if_pos ⟨rfl, rfl⟩]
  · rw [r6, if_pos ⟨rfl, rfl⟩]
  · rw [h6, h3]
    exact ((((((sI_sm h1).tr (sI_sm h1)).tr (sI_sm h1)).tr (sI_sm h1)).tr (sI_sm h1)).tr (sI_sm h1)).tr (sI_sm h2)
  · rw [r6, if_neg h2, if_neg (fun z => h1 z.2), if_neg (fun z => h1 z.2), r3, if_neg (fun z => h1 z.2), if_neg (fun z => h1 z.2), if_neg (fun z => h1 z.2), if_neg (fun z => h1 z.2)]
theorem in2a {a b : Nat} : a ∈ [a, b] := List.mem_cons_self
theorem in2b {a b : Nat} : b ∈ [a, b] := List.mem_cons_of_mem _ (List.mem_singleton.mpr rfl)
/-- the sink's row n is written over -/
theorem SiR.over {E : EV} {S : List Nat} {G G6 : GH} {o : Nat → Nat} {si ls n p b : Nat} {rows : List Nat} {cm pr : Int32} {w : WT} (h : SiR E G o si ls rows cm pr n p) (hw : Wf G) (hb : rows[n]? = some b) (st : Stq S G o G6 o) (hr : rW G6 b = w) (hf : wO w = 0 ∨ wO w = 1) (hn : gI G6 323 si = nI (n + 1))
    (hs : ∀ q, q ≠ b → q ≠ si → Sm G G6 q) (hi : ∀ f q, q ≠ b → ¬ (f = 323 ∧ q = si) → gI G6 f q = gI G f q) (hR : ∀ f q, gR G6 f q = gR G f q) (hT : ∀ q, gT G6 q = gT G q) : SiR E G6 o si ls rows cm pr (n + 1) p ∧ recs G6 rows (n + 1) = recs G rows n ++ [w] := by
  obtain ⟨a1, a2, a3, a4, a5, a6, a7, a8, a9, c, b1, b2⟩ := h
  have hbm := List.mem_of_getElem? hb
  have hlt : n < rows.length := (List.getElem?_eq_some_iff.mp hb).1
  have hb8 := a9.2 b hbm
  have sib : si ≠ b := fun z => by rw [z] at a1; omega
  have lb : ls ≠ b := fun z => by
    have := b1.tg
    rw [z] at this; omega
  have sl : Sm G G6 ls := hs ls lb (fun z => a8 z.symm)
  refine ⟨⟨(hT _).trans a1, a2, (hR _ _).trans a3, ?_, ?_, hn, by omega, a8, ⟨a9.1, fun x hx => ?_⟩, c, ?_, b2⟩, ?_⟩
  · rw [hi 321 si sib (fun z => absurd z.1 (by omega))]; exact a4
  · rw [hi 322 si sib (fun z => absurd z.1 (by omega))]; exact a5
  · obtain ⟨x1, x2, x3⟩ := a9.2 x hx
    refine ⟨(hT _).trans x1, x2, ?_⟩
    by_cases c : x = b
    · rw [c]
      have : gI G6 453 b = wO w := by rw [← hr]; rfl
      rw [this]; exact hf
    · rw [hi 453 x c (fun z => absurd z.1 (by omega))]; exact x3
  · obtain ⟨e, h1, h2, h3, h4, h5, h6, h7, h8⟩ := b1
    have he : Sm G G6 e := by
      refine hs e (fun z => ?_) (fun z => ?_)
      · rcases h8 with h8 | h8 <;> rw [z] at h8 <;> omega
      · rcases h8 with h8 | h8 <;> rw [z] at h8 <;> omega
    exact ⟨e, LAe.same ⟨h1, h2, h3, h4, h5, h6, h7, h8⟩ sl he rfl rfl⟩
  · unfold recs
    rw [List.take_succ, List.map_append]
    rw [hb]
    show List.map (rW G6) (List.take n rows) ++ [rW G6 b] = _
    rw [hr]
    congr 1
    refine List.map_congr_left (fun x hx => rW_sm (hs x (fun z => ?_) (fun z => ?_)))
    · obtain ⟨i, hi, he⟩ := List.getElem_of_mem hx
      rw [List.length_take] at hi
      rw [List.getElem_take] at he
      have h1 : rows[i] = rows[n] := by rw [he, z]; exact (Option.some.inj ((List.getElem?_eq_getElem hlt).symm.trans hb)).symm
      have := (List.getElem_inj a9.1).mp h1
      omega
    · have := (a9.2 x (List.mem_of_mem_take hx)).1
      rw [z] at this; omega
/-- Sink.write -/
theorem c_write {E : EV} {G : GH} {Post : Res → GH → Prop} {o : Nat → Nat} {si ls n p a : Nat} {v : Int32} {rows : List Nat} {cm pr : Int32} (h : SiR E (sI G 453 a v) o si ls rows cm pr n p) (hw : Wf G) (ha : gT G a = 8) (hoa : o a ≠ si) (hol : o a ≠ ls) (hv : v = 0 ∨ v = 1) (hn : n ≤ 2999) (hl : rows.length ≤ 2999)
    (k : ∀ G' o' rows' p', SiR E G' o' si ls rows' cm pr (n + 1) p' → recs G' rows' (n + 1) = recs (sI G 453 a v) rows n ++ [rW (sI G 453 a v) a] → Stq [si, ls] (sI G 453 a v) o G' o' → Cs G p G' p' → (∀ m, m ≤ n → recs G' rows' m = recs (sI G 453 a v) rows m) → rows'.length ≤ max rows.length (n + 1) → Post (.inl none) G') : Cl E 7 m_Si_write [.ref si, .ref a, .int v] G Post := by
  obtain ⟨a1, a2, a3, a4, a5, a6, a7, a8, a9, c, b1, b2⟩ := id h
  have sia : si ≠ a := fun z => by
    have : gT G si = 6 := a1
    rw [z] at this; omega
  have lsa : ls ≠ a := fun z => by
    have : gT G ls = 12 := b1.tg
    rw [z] at this; omega
  have e1 : gI G 323 si = nI n := by rw [gI_sI, if_neg (fun z => sia z.2)] at a6; exact a6
  have e2 : gI G 706 ls = nI rows.length := by have := b1.sz; rw [gI_sI, if_neg (fun z => lsa z.2)] at this; exact this
  have w1 : Wf (sI G 453 a v) := hw
  refine j_enter (L := [some (.ref si), some (.ref a), some (.int v)]) me_Si_write (cat_c rfl (cat_c rfl (cat_c rfl cat_n))) (Nat.le_of_ble_eq_true rfl) rfl (wp_Si_write_0 si a v ⟨ha, hv, a1, ls, a3, b1.tg, ?_⟩)
  rw [e1, e2, nI_ltI (by omega) (by omega), nI_leI (by omega) (by omega)]
  refine ⟨fun hlt => ⟨fun c => absurd c (by omega), fun _ => ?_⟩, fun hge => ?_⟩
  · obtain ⟨b, hb⟩ : ∃ b, rows[n]? = some b := ⟨_, List.getElem?_eq_getElem hlt⟩
    have hbm := List.mem_of_getElem? hb
    obtain ⟨x1, x2, x3⟩ := a9.2 b hbm
    have hab : a ≠ b := fun z => hoa (by rw [z]; exact x2)
    refine ⟨b, b1.lg hb, x1, fun G10 h10 => ⟨hv, ?_⟩⟩
    generalize hG1 : sI G 453 a v = G1 at *
    have f1 : gI G 448 a = gI G1 448 a := by rw [← hG1, gI_sI, if_neg (fun z => absurd z.1 (by omega))]
    have f2 : gI G 449 a = gI G1 449 a := by rw [← hG1, gI_sI, if_neg (fun z => absurd z.1 (by omega))]
    have f3 : gI G 450 a = gI G1 450 a := by rw [← hG1, gI_sI, if_neg (fun z => absurd z.1 (by omega))]
    have f4 : gI G 451 a = gI G1 451 a := by rw [← hG1, gI_sI, if_neg (fun z => absurd z.1 (by omega))]
    have f5 : gI G 452 a = gI G1 452 a := by rw [← hG1, gI_sI, if_neg (fun z => absurd z.1 (by omega))]
    rw [f1, f2, f3, f4] at h10
    have vv : gI G1 453 a = v := by rw [← hG1]; exact gI_sI_eq
    have h15 : sI (sI (sI G10 452 b (gI G 452 a)) 453 b v) 323 si (nI n + 1) = sI (sI (sI G10 452 b (gI G1 452 a)) 453 b (gI G1 453 a)) 323 si (nI n + 1) := by rw [f5, vv]
    generalize sI (sI (sI G10 452 b (gI G 452 a)) 453 b v) 323 si (nI n + 1) = G15 at *
    obtain ⟨q1, q2, q3, q4, q6, q7, q8, q9, q10⟩ := wr_copy (S := [si, ls]) (o := o) (si := si) (G6 := G15) (v := nI n + 1) w1 (by rw [x2]; exact in2a) (by rw [a2]; exact in2a) h10 h15
    have ov := h.over w1 hb q1 q4 (by show gI G1 453 a = 0 ∨ gI G1 453 a = 1; rw [vv]; exact hv) (by rw [q6, nI_1]) q7 q8 q9 q10
    refine k G15 o rows p ov.1 ov.2 q1 ⟨by rw [q2, ← hG1]; exact Nat.le_refl _, by rw [q3, ← hG1]; exact Nat.le_refl _⟩ (fun m hm => ?_) (Nat.le_max_left _ _)
    have e3 : ∀ H, recs H rows m = (recs H rows (n + 1)).take m := fun H => by unfold recs; rw [← List.map_take, List.take_take, Nat.min_eq_left (by omega)]
    have e4 : ∀ H, recs H rows m = (recs H rows n).take m := fun H => by unfold recs; rw [← List.map_take, List.take_take, Nat.min_eq_left hm]
    have e5 : (recs G1 rows n).length = n := by unfold recs; rw [List.length_map, List.length_take]; omega
    rw [e3 G15, ov.2, List.take_append_of_le_length (by omega), e4 G1]
  · generalize hG1 : sI G 453 a v = G1 at *
    intro G19 h19
    have hnr : n = rows.length := by omega
    have s19 : Stq [si, ls] G1 o G19 (uo o (gz G1) si) := by rw [h19]; exact (Stq.rf w1).al si
    have s19' : Stq [] G1 o G19 (uo o (gz G1) si) := by rw [h19]; exact (Stq.rf w1).al si
    have h19r := h.stp w1 s19' (List.not_mem_nil) (List.not_mem_nil)
    have g1 : gz G1 = gz G := by rw [← hG1]; rfl
    have g2 : gs G1 = gs G := by rw [← hG1]; rfl
    have hT1 : gT G1 a = 8 := by rw [← hG1]; exact ha
    have haz := w1 a (by omega)
    obtain ⟨d1, d2, d3, d4, d5, d6, d7, d8, d9, c', d10, d11⟩ := h19r
    have hnew8 : gT G19 (gz G1) = 8 := by rw [h19]; exact if_pos rfl
    rw [← g1]
    refine ⟨d10.tg, c_AL_add d10 s19.wf d9.ob (OB.of8 hnew8) (by omega) (fun G2 o2 c2 hla st cs => ?_)⟩
    have sA : Stq [si, ls] G1 o G2 o2 := s19.tr (st.mono (fun x hx => by rw [List.mem_singleton] at hx; rw [hx]; exact in2b))
    have sB : Stq [ls] G1 o G2 o2 := (s19'.mono (fun x hx => absurd hx List.not_mem_nil)).tr st
    have w2 : Wf G2 := sA.wf
    have lsi : si ∉ [ls] := by rw [List.mem_singleton]; exact a8
    have nw : gz G1 ∉ rows := fun z => by
      have := w1 _ (by rw [(a9.2 _ z).1]; omega)
      omega
    have hz19 : gz G19 = gz G1 + 1 := by rw [h19]; rfl
    have ssi : Sm G1 G2 si := sB.sm (w1 _ (by rw [a1]; omega)) (by rw [a2]; exact lsi)
    have snew : Sm G19 G2 (gz G1) := st.sm (by omega) (by rw [uo_eq]; exact lsi)
    have nw8 : gT G2 (gz G1) = 8 := snew.1.trans hnew8
    have nwo : o2 (gz G1) = si := (st.ow (by omega)).trans uo_eq
    have nwf : gI G2 453 (gz G1) = 0 := by rw [snew.2.2.1, h19]; exact if_pos rfl
    have wn2 : Wn G2 o2 si (rows ++ [gz G1]) := by
      refine ⟨List.nodup_append.mpr ⟨a9.1, List.nodup_cons.mpr ⟨List.not_mem_nil, List.nodup_nil⟩, fun x hx y hy => ?_⟩, fun x hx => ?_⟩
      · rw [List.mem_singleton] at hy
        exact fun z => nw (by rw [← hy, ← z]; exact hx)
      · rcases List.mem_append.mp hx with hx | hx
        · exact (a9.stp w1 sB lsi).2 x hx
        · rw [List.mem_singleton] at hx
          rw [hx]
          exact ⟨nw8, nwo, Or.inl nwf⟩
    have si2 : SiR E G2 o2 si ls (rows ++ [gz G1]) cm pr n (rows.length + 1 + c2) := ⟨by rw [ssi.1]; exact a1, (sB.ow (w1 _ (by rw [a1]; omega))).trans a2, by rw [ssi.2.2.2.1]; exact a3, by rw [ssi.2.2.1]; exact a4, by rw [ssi.2.2.1]; exact a5, by rw [ssi.2.2.1]; exact a6, by simp; omega, a8, wn2, c2, hla, by simp⟩
    have hb : (rows ++ [gz G1])[n]? = some (gz G1) := by rw [hnr]; exact List.getElem?_concat_length
    have sa : Sm G1 G2 a := sB.sm haz (by rw [List.mem_singleton]; exact hol)
    have hab : a ≠ gz G1 := by omega
    have hr2 : ∀ m, m ≤ n → recs G2 (rows ++ [gz G1]) m = recs G1 rows m := fun m hm => by
      unfold recs
      rw [List.take_append_of_le_length (by omega)]
      exact (a9.sub (List.take_sublist m rows)).map w1 sB lsi
    have e9 : gI G2 323 si = nI n := si2.2.2.2.2.2.1
    refine wp_Si_write_33 si a (1 : Int32) ⟨si2.1, ls, si2.2.2.1, hla.tg, ?_⟩
    rw [hla.sz, e9, nI_leI (by simp; omega) (by omega)]
    refine ⟨fun z => absurd z (by simp; omega), fun _ => ⟨gz G1, hla.lg hb, nw8, by rw [sa.1]; exact hT1, fun G10 h10 => ?_⟩⟩
    have vv : gI G2 453 a = v := by rw [sa.2.2.1, ← hG1]; exact gI_sI_eq
    refine ⟨by rw [vv]; exact hv, ?_⟩
    obtain ⟨q1, q2, q3, q4, q6, q7, q8, q9, q10⟩ := wr_copy (S := [si, ls]) (o := o2) (si := si) (v := nI n + 1) w2 (by rw [nwo]; exact in2a) (by rw [si2.2.1]; exact in2a) h10 rfl
    generalize sI (sI (sI G10 452 (gz G1) (gI G2 452 a)) 453 (gz G1) (gI G2 453 a)) 323 si (nI n + 1) = G15 at *
    have ov := si2.over w2 hb q1 q4 (by show gI G2 453 a = 0 ∨ gI G2 453 a = 1; rw [vv]; exact hv) (by rw [q6, nI_1]) q7 q8 q9 q10
    have cc : Cs G p G15 (rows.length + 1 + c2) := by
      have hgs : gs G19 = gs G1 + 6 := by rw [h19]; rfl
      have hcc : c' = c := by have := d11.symm.trans b2; omega
      have := cs.1
      have := cs.2
      exact ⟨by rw [q2]; omega, by rw [q3]; omega⟩
    refine k G15 o2 (rows ++ [gz G1]) (rows.length + 1 + c2) ov.1 ?_ (sA.tr q1) cc (fun m hm => ?_) (by simp; omega)
    · rw [ov.2, hr2 n (Nat.le_refl _), rW_sm sa]
    · have e3 : ∀ H, recs H (rows ++ [gz G1]) m = (recs H (rows ++ [gz G1]) (n + 1)).take m := fun H => by unfold recs; rw [← List.map_take, List.take_take, Nat.min_eq_left (by omega)]
      have e4 : recs G2 (rows ++ [gz G1]) m = (recs G2 (rows ++ [gz G1]) n).take m := by unfold recs; rw [← List.map_take, List.take_take, Nat.min_eq_left hm]
      have e5 : (recs G2 (rows ++ [gz G1]) n).length = n := by unfold recs; rw [List.length_map, List.length_take]; simp; omega
      rw [e3 G15, ov.2, List.take_append_of_le_length (by omega), ← e4, hr2 m hm]
