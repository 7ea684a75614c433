/-! windows: what is read of one, of a row of them, of Windows and of Sink -/
abbrev WT : Type := Int32 × Int32 × Int32 × Int32 × Int32 × Int32
abbrev wK (w : WT) : Int32 := w.1
abbrev wS (w : WT) : Int32 := w.2.1
abbrev wE (w : WT) : Int32 := w.2.2.1
abbrev wC (w : WT) : Int32 := w.2.2.2.1
abbrev wM (w : WT) : Int32 := w.2.2.2.2.1
abbrev wO (w : WT) : Int32 := w.2.2.2.2.2
def rW (G : GH) (a : Nat) : WT := (gI G 448 a, gI G 449 a, gI G 450 a, gI G 451 a, gI G 452 a, gI G 453 a)
theorem rW_sm {G G' : GH} {a : Nat} (h : Sm G G' a) : rW G' a = rW G a := by
  have := h.2.2.1
  unfold rW
  rw [this, this, this, this, this, this]
def Wn (G : GH) (o : Nat → Nat) (r : Nat) (bs : List Nat) : Prop := bs.Nodup ∧ ∀ b ∈ bs, gT G b = 8 ∧ o b = r ∧ (gI G 453 b = 0 ∨ gI G 453 b = 1)
theorem Wn.stp {S : List Nat} {G G' : GH} {o o' : Nat → Nat} {r : Nat} {bs : List Nat} (h : Wn G o r bs) (hw : Wf G) (s : Stq S G o G' o') (hr : r ∉ S) : Wn G' o' r bs := by
  refine ⟨h.1, fun b hb => ?_⟩
  obtain ⟨h1, h2, h3⟩ := h.2 b hb
  have hz := hw b (by omega)
  have sb := s.sm hz (by rw [h2]; exact hr)
  exact ⟨by rw [sb.1]; exact h1, (s.ow hz).trans h2, by rw [sb.2.2.1]; exact h3⟩
theorem Wn.map {S : List Nat} {G G' : GH} {o o' : Nat → Nat} {r : Nat} {bs : List Nat} (h : Wn G o r bs) (hw : Wf G) (s : Stq S G o G' o') (hr : r ∉ S) : bs.map (rW G') = bs.map (rW G) := by
  refine List.map_congr_left (fun b hb => rW_sm ?_)
  obtain ⟨h1, h2, h3⟩ := h.2 b hb
  exact s.sm (hw b (by omega)) (by rw [h2]; exact hr)
theorem Wn.ob {G : GH} {o : Nat → Nat} {r : Nat} {bs : List Nat} (h : Wn G o r bs) : ∀ x ∈ bs, OB G x := fun x hx => OB.of8 (h.2 x hx).1
theorem Wn.sub {G : GH} {o : Nat → Nat} {r : Nat} {bs cs : List Nat} (h : Wn G o r bs) (hs : cs.Sublist bs) : Wn G o r cs := ⟨h.1.sublist hs, fun b hb => h.2 b (hs.subset hb)⟩
theorem Wn.perm {G : GH} {o : Nat → Nat} {r : Nat} {bs cs : List Nat} (h : Wn G o r bs) (hs : bs.Perm cs) : Wn G o r cs := ⟨hs.nodup_iff.mp h.1, fun b hb => h.2 b (hs.mem_iff.mpr hb)⟩
/-- the object Windows: rows in use, spare rows -/
def WsR (E : EV) (G : GH) (o : Nat → Nat) (ws lr lp : Nat) (rows spare : List Nat) (p : Nat) : Prop :=
  gT G ws = 9 ∧ o ws = ws ∧ gR G 512 ws = some lr ∧ gR G 513 ws = some lp ∧ lr ≠ lp ∧ Wn G o ws (rows ++ spare) ∧ ∃ cr cp, LA E G o lr rows cr ∧ LA E G o lp spare cp ∧ p = rows.length + spare.length + cr + cp
theorem LA.tg {E : EV} {G : GH} {o : Nat → Nat} {l c : Nat} {xs : List Nat} (h : LA E G o l xs c) : gT G l = 12 := h.elim (fun _ h => h.1)
theorem LA.ow {E : EV} {G : GH} {o : Nat → Nat} {l c : Nat} {xs : List Nat} (h : LA E G o l xs c) : o l = l := h.elim (fun _ h => h.2.2.2.2.2.2.1)
theorem LA.sz {E : EV} {G : GH} {o : Nat → Nat} {l c : Nat} {xs : List Nat} (h : LA E G o l xs c) : gI G 706 l = nI xs.length := h.elim (fun _ h => h.2.2.1)
theorem LA.le {E : EV} {G : GH} {o : Nat → Nat} {l c : Nat} {xs : List Nat} (h : LA E G o l xs c) : xs.length ≤ c ∧ c ≤ 6000 := h.elim (fun _ h => ⟨h.2.2.2.2.1, h.2.2.2.2.2.1⟩)
theorem WsR.stp {E : EV} {S : List Nat} {G G' : GH} {o o' : Nat → Nat} {ws lr lp p : Nat} {rows spare : List Nat} (h : WsR E G o ws lr lp rows spare p) (hw : Wf G) (s : Stq S G o G' o') (h1 : ws ∉ S) (h2 : lr ∉ S) (h3 : lp ∉ S) : WsR E G' o' ws lr lp rows spare p := by
  obtain ⟨a1, a2, a3, a4, a5, a6, cr, cp, a7, a8, a9⟩ := h
  have hz := hw ws (by omega)
  have sb := s.sm hz (by rw [a2]; exact h1)
  exact ⟨by rw [sb.1]; exact a1, (s.ow hz).trans a2, by rw [sb.2.2.2.1]; exact a3, by rw [sb.2.2.2.1]; exact a4, a5, a6.stp hw s h1, cr, cp, a7.stp hw s h2, a8.stp hw s h3, a9⟩
/-- the object Sink -/
def SiR (E : EV) (G : GH) (o : Nat → Nat) (si ls : Nat) (rows : List Nat) (cm pr : Int32) (n : Nat) (p : Nat) : Prop :=
  gT G si = 6 ∧ o si = si ∧ gR G 320 si = some ls ∧ gI G 321 si = cm ∧ gI G 322 si = pr ∧ gI G 323 si = nI n ∧ n ≤ rows.length ∧ si ≠ ls ∧ Wn G o si rows ∧ ∃ c, LA E G o ls rows c ∧ p = rows.length + c
theorem SiR.stp {E : EV} {S : List Nat} {G G' : GH} {o o' : Nat → Nat} {si ls n p : Nat} {rows : List Nat} {cm pr : Int32} (h : SiR E G o si ls rows cm pr n p) (hw : Wf G) (s : Stq S G o G' o') (h1 : si ∉ S) (h2 : ls ∉ S) : SiR E G' o' si ls rows cm pr n p := by
  obtain ⟨a1, a2, a3, a4, a5, a6, a7, a8, a9, c, b1, b2⟩ := h
  have hz := hw si (by omega)
  have sb := s.sm hz (by rw [a2]; exact h1)
  exact ⟨by rw [sb.1]; exact a1, (s.ow hz).trans a2, by rw [sb.2.2.2.1]; exact a3, by rw [sb.2.2.1]; exact a4, by rw [sb.2.2.1]; exact a5, by rw [sb.2.2.1]; exact a6, a7, a8, a9.stp hw s h1, c, b1.stp hw s h2, b2⟩
/-- what is written to the sink so far -/
def recs (G : GH) (rows : List Nat) (n : Nat) : List WT := (rows.take n).map (rW G)
theorem SiR.rec {E : EV} {S : List Nat} {G G' : GH} {o o' : Nat → Nat} {si ls n p : Nat} {rows : List Nat} {cm pr : Int32} (h : SiR E G o si ls rows cm pr n p) (hw : Wf G) (s : Stq S G o G' o') (h1 : si ∉ S) (m : Nat) : recs G' rows m = recs G rows m :=
  (h.2.2.2.2.2.2.2.2.1.sub (List.take_sublist m rows)).map hw s h1
/-- an unused row: from the spare ones, or new -/
theorem c_unusedRow {E : EV} {G : GH} {Post : Res → GH → Prop} {o : Nat → Nat} {ws lr lp p : Nat} {rows spare : List Nat} (h : WsR E G o ws lr lp rows spare p) (hw : Wf G)
    (k : ∀ G' o' b spare' p', WsR E G' o' ws lr lp rows spare' p' → b ∉ rows ++ spare' → gT G' b = 8 → o' b = ws → (gI G' 453 b = 0 ∨ gI G' 453 b = 1) → Stq [lp] G o G' o' → Cs G p G' (p' + 1) → rows.length + spare'.length + 1 ≤ max (rows.length + spare.length) (rows.length + 1) → Post (.inl (some (.ref b))) G') : Cl E 4 m_Ws_unusedRow [.ref ws] G Post := by
  obtain ⟨a1, a2, a3, a4, a5, a6, cr, cp, a7, a8, a9⟩ := id h
  have hle := a8.le
  refine j_enter (L := [some (.ref ws), none]) me_Ws_unusedRow (cat_c rfl cat_n) (Nat.le_of_ble_eq_true rfl) rfl (wp_Ws_unusedRow_0 ws ⟨a1, lp, a4, a8.tg, ?_⟩)
  rw [a8.sz]
  rcases Nat.eq_zero_or_pos spare.length with hs | hs
  · have e0 : nI spare.length - 1 = -1 := by rw [hs]; decide +kernel
    rw [e0]
    refine ⟨fun c => absurd c (by decide +kernel), fun _ => fun G5 h5 => ?_⟩
    have hsp : spare = [] := List.length_eq_zero_iff.mp hs
    subst h5 hsp
    have st : Stq [lp] G o (al G 8 6) (uo o (gz G) ws) := (Stq.rf hw).al ws
    have hnew : gz G ∉ rows ++ [] := fun z => by
      have := hw _ (by rw [(a6.2 _ z).1]; omega)
      omega
    refine k _ (uo o (gz G) ws) (gz G) [] p ⟨?_, ?_, ?_, ?_, a5, ?_, cr, cp, ?_, ?_, a9⟩ hnew (if_pos rfl) uo_eq (Or.inl (if_pos rfl)) st ⟨?_, ?_⟩ (by simp)
    · exact st.tg' hw a1 (by omega)
    · exact (st.ow (hw _ (by omega))).trans a2
    · exact (al_sm (by have := hw ws (by omega); omega)).2.2.2.1 _ |>.trans a3
    · exact (al_sm (by have := hw ws (by omega); omega)).2.2.2.1 _ |>.trans a4
    · exact a6.stp (S := []) hw ((Stq.rf hw).al ws) (List.not_mem_nil)
    · exact a7.stp (S := []) hw ((Stq.rf hw).al ws) (List.not_mem_nil)
    · exact a8.stp (S := []) hw ((Stq.rf hw).al ws) (List.not_mem_nil)
    · show gz G + 1 + p ≤ _; omega
    · show gs G + 6 + _ ≤ _; omega
  · have e0 : nI spare.length - 1 = nI (spare.length - 1) := nI_sub (b := 1) hs
    rw [e0]
    obtain ⟨b, hb⟩ : ∃ b, spare[spare.length - 1]? = some b := ⟨_, List.getElem?_eq_getElem (by omega)⟩
    have hbm : b ∈ spare := List.mem_of_getElem? hb
    have hobs : ∀ x ∈ spare, OB G x := fun x hx => a6.ob x (List.mem_append_right _ hx)
    refine ⟨fun _ => c_AL_remove a8 hw hobs hb (fun G' hla st hz hsl => ?_), fun c => absurd (nI_pos' (by omega)) c⟩
    have hsplit : (spare.eraseIdx (spare.length - 1)) ++ [b] = spare := by
      have e1 := List.eraseIdx_eq_dropLast (l := spare) (i := spare.length - 1) (by omega)
      have hne : spare ≠ [] := fun z => by rw [z] at hs; exact absurd hs (by decide)
      have e2 : b = spare.getLast hne := by
        have := List.getLast_eq_getElem hne
        rw [List.getElem?_eq_getElem (by omega)] at hb
        rw [this]; exact (Option.some.inj hb).symm
      rw [e1, e2]
      exact List.dropLast_concat_getLast hne
    generalize hsp : spare.eraseIdx (spare.length - 1) = sp' at *
    have a6' := a6.stp hw st (r := ws) (by simp; intro z; have := a8.tg; rw [← z] at this; omega)
    have hb' := a6'.2 b (List.mem_append_right _ hbm)
    have nd : (rows ++ sp' ++ [b]).Nodup := by rw [List.append_assoc, hsplit]; exact a6.1
    refine wp_Ws_unusedRow_32 b ⟨hb'.1, k G' o b sp' (rows.length + sp'.length + cr + cp) ⟨?_, a2, ?_, ?_, a5, ?_, cr, cp, ?_, hla, rfl⟩ ?_ hb'.1 hb'.2.1 hb'.2.2 st ⟨?_, ?_⟩ ?_⟩
    · exact st.tg' hw a1 (by omega)
    · exact (st.sm (hw ws (by omega)) (by rw [a2]; simp; intro z; have := a8.tg; rw [← z] at this; omega)).2.2.2.1 _ |>.trans a3
    · exact (st.sm (hw ws (by omega)) (by rw [a2]; simp; intro z; have := a8.tg; rw [← z] at this; omega)).2.2.2.1 _ |>.trans a4
    · exact a6'.sub (by rw [← hsplit, ← List.append_assoc]; exact List.sublist_append_left _ _)
    · exact a7.stp hw st (by simp; exact a5)
    · exact fun z => (List.nodup_append.mp nd).2.2 b z b (by simp) rfl
    all_goals (have : sp'.length + 1 = spare.length := by rw [← hsplit]; simp)
    · omega
    · omega
    · omega
