def setO (w : WT) (v : Int32) : WT := (wK w, wS w, wE w, wC w, wM w, v)
theorem WsR.wI {E : EV} {G : GH} {o : Nat → Nat} {ws lr lp p f b : Nat} {v : Int32} {rows spare : List Nat} (h : WsR E G o ws lr lp rows spare p) (hw : Wf G) (hb : o b = ws) (hne : lr ≠ ws ∧ lp ≠ ws) (hv : f = 453 → v = 0 ∨ v = 1) : WsR E (sI G f b v) o ws lr lp rows spare p := by
  obtain ⟨a1, a2, a3, a4, a5, a6, cr, cp, a7, a8, a9⟩ := h
  have st : Stq [ws] G o (sI G f b v) o := (Stq.rf hw).wI (fun _ => by rw [hb]; exact in1)
  refine ⟨a1, a2, a3, a4, a5, ⟨a6.1, fun x hx => ⟨(a6.2 x hx).1, (a6.2 x hx).2.1, ?_⟩⟩, cr, cp, a7.stp hw st (by rw [List.mem_singleton]; exact hne.1), a8.stp hw st (by rw [List.mem_singleton]; exact hne.2), a9⟩
  rw [gI_sI]
  by_cases c : 453 = f ∧ x = b
  · rw [if_pos c]; exact hv c.1.symm
  · rw [if_neg c]; exact (a6.2 x hx).2.2
theorem rW_sI_ne {G : GH} {f b x : Nat} {v : Int32} (h : x ≠ b) : rW (sI G f b v) x = rW G x := rW_sm (sI_sm h)
theorem rW_sO {G : GH} {b : Nat} {v : Int32} : rW (sI G 453 b v) b = setO (rW G b) v := by
  refine rW_mk ?_ ?_ ?_ ?_ ?_ ?_
  · rw [gI_sI, if_neg (fun z => absurd z.1 (by omega))]; rfl
  · rw [gI_sI, if_neg (fun z => absurd z.1 (by omega))]; rfl
  · rw [gI_sI, if_neg (fun z => absurd z.1 (by omega))]; rfl
  · rw [gI_sI, if_neg (fun z => absurd z.1 (by omega))]; rfl
  · rw [gI_sI, if_neg (fun z => absurd z.1 (by omega))]; rfl
  · rw [gI_sI, if_pos ⟨rfl, rfl⟩]
theorem map_rW_ne {G : GH} {f b : Nat} {v : Int32} {xs : List Nat} (h : b ∉ xs) : xs.map (rW (sI G f b v)) = xs.map (rW G) :=
  List.map_congr_left (fun x hx => rW_sI_ne (fun z => h (z ▸ hx)))
/-- what emitDue makes of the windows, and what it writes -/
def emW (mk : Int32) : List WT → List WT
  | [] => []
  | w :: L => if wE w ≤ mk then (if wO w = 0 then setO w 1 else w) :: emW mk L else w :: L
def emR (mk : Int32) : List WT → List WT
  | [] => []
  | w :: L => if wE w ≤ mk then (if wO w = 0 then setO w 1 :: emR mk L else emR mk L) else []
theorem WsR.ne {E : EV} {G : GH} {o : Nat → Nat} {ws lr lp p : Nat} {rows spare : List Nat} (h : WsR E G o ws lr lp rows spare p) : lr ≠ ws ∧ lp ≠ ws ∧ lr ≠ lp := by
  obtain ⟨a1, a2, a3, a4, a5, a6, cr, cp, a7, a8, a9⟩ := h
  exact ⟨fun z => by have := a7.tg; rw [z] at this; omega, fun z => by have := a8.tg; rw [z] at this; omega, a5⟩
theorem recs_len {G : GH} {rows : List Nat} {n : Nat} (h : n ≤ rows.length) : (recs G rows n).length = n := by
  unfold recs
  rw [List.length_map, List.length_take]
  omega
theorem c_emitDue {E : EV} {Post : Res → GH → Prop} {ws lr lp si ls : Nat} {rows spare : List Nat} {cm pr mk : Int32} (hd : ws ≠ si ∧ ws ≠ ls ∧ lr ≠ si ∧ lr ≠ ls ∧ lp ≠ si ∧ lp ≠ ls) :
    ∀ (rest pre : List Nat) (G : GH) (o : Nat → Nat) (p q n : Nat) (sr : List Nat), rows = pre ++ rest → WsR E G o ws lr lp rows spare p → SiR E G o si ls sr cm pr n q → Wf G → n + rest.length ≤ 2999 → sr.length ≤ 2999 →
    (∀ G' o' q' n' sr', WsR E G' o' ws lr lp rows spare p → SiR E G' o' si ls sr' cm pr n' q' → pre.map (rW G') = pre.map (rW G) → rest.map (rW G') = emW mk (rest.map (rW G)) → recs G' sr' n' = recs G sr n ++ emR mk (rest.map (rW G)) → Stq [ws, si, ls] G o G' o' → Cs G q G' q' → n ≤ n' → (∀ m, m ≤ n → recs G' sr' m = recs G sr m) → sr'.length ≤ max sr.length n' → Post (.inl none) G') →
    J E 8 m_Ws_emitDue 2 [some (.ref ws), some (.int mk), some (.ref si), some (.int (nI pre.length)), none] [] G Post := by
  intro rest
  induction rest with
  | nil =>
    intro pre G o p q n sr hr hW hS hw hn hl k
    obtain ⟨a1, a2, a3, a4, a5, a6, cr, cp, a7, a8, a9⟩ := id hW
    have hle := a7.le
    refine wp_Ws_emitDue_2 ws mk si (nI pre.length) ⟨a1, lr, a3, a7.tg, ?_⟩
    have e1 : rows = pre := by rw [hr, List.append_nil]
    rw [a7.sz, nI_leI (by omega) (by rw [← e1]; omega)]
    exact ⟨fun _ => k G o q n sr hW hS rfl rfl (by show _ = _ ++ []; rw [List.append_nil]) (Stq.rf hw) Cs.rf (Nat.le_refl _) (fun _ _ => rfl) (Nat.le_max_left _ _), fun c => absurd (by rw [e1]; exact Nat.le_refl _) c⟩
  | cons b rest ih =>
    intro pre G o p q n sr hr hW hS hw hn hl k
    obtain ⟨a1, a2, a3, a4, a5, a6, cr, cp, a7, a8, a9⟩ := id hW
    have hle := a7.le
    have hlen : rows.length = pre.length + rest.length + 1 := by rw [hr]; simp; omega
    have hb : rows[pre.length]? = some b := by rw [hr, List.getElem?_append_right (Nat.le_refl _), Nat.sub_self]; rfl
    have hbm : b ∈ rows := List.mem_of_getElem? hb
    obtain ⟨x1, x2, x3⟩ := a6.2 b (List.mem_append_left _ hbm)
    have nd : rows.Nodup := (List.nodup_append.mp a6.1).1
    have nd2 : b ∉ pre ∧ b ∉ rest := by
      rw [hr] at nd
      have h1 := List.nodup_append.mp nd
      exact ⟨fun z => h1.2.2 b z b List.mem_cons_self rfl, (List.nodup_cons.mp h1.2.1).1⟩
    refine wp_Ws_emitDue_2 ws mk si (nI pre.length) ⟨a1, lr, a3, a7.tg, ?_⟩
    rw [a7.sz, nI_leI (by omega) (by omega), nI_1]
    have hn' : n + rest.length + 1 ≤ 2999 := by rw [List.length_cons] at hn; omega
    have hr' : rows = (pre ++ [b]) ++ rest := by rw [hr]; simp
    have hl' : pre.length + 1 = (pre ++ [b]).length := by simp
    refine ⟨fun c => absurd c (by omega), fun _ => ⟨b, a7.lg hb, x1, fun c1 => ⟨fun c2 => ?_, fun c2 => ⟨hS.1, ?_⟩⟩, fun c1 => ?_⟩⟩
    · have c1 : wE (rW G b) ≤ mk := c1
      have c2 : ¬ wO (rW G b) = 0 := c2
      rw [hl']
      refine ih (pre ++ [b]) G o p q n sr hr' hW hS hw (by omega) hl (fun G' o' q' n' sr' y1 y2 y3 y4 y5 y6 y7 y8 y9 y10 => ?_)
      rw [List.map_append, List.map_append] at y3
      have y3' := List.append_inj y3 (by simp)
      refine k G' o' q' n' sr' y1 y2 y3'.1 ?_ ?_ y6 y7 y8 y9 y10
      · have e0 : (if wO (rW G b) = 0 then setO (rW G b) 1 else rW G b) = rW G b := if_neg c2
        show rW G' b :: rest.map (rW G') = if wE (rW G b) ≤ mk then _ else _
        rw [if_pos c1, e0, y4]
        have := y3'.2
        simp at this
        rw [this]
      · rw [y5]
        show _ = _ ++ (if wE (rW G b) ≤ mk then _ else _)
        rw [if_pos c1]
        show _ = _ ++ (if wO (rW G b) = 0 then _ else _)
        rw [if_neg c2]
    · have c1 : wE (rW G b) ≤ mk := c1
      have c2 : wO (rW G b) = 0 := c2
      have st1 : Stq [ws] G o (sI G 453 b 1) o := (Stq.rf hw).wI (fun _ => by rw [x2]; exact in1)
      have hW1 := hW.wI (f := 453) (v := 1) hw x2 ⟨hW.ne.1, hW.ne.2.1⟩ (fun _ => Or.inr rfl)
      have hS1 := hS.stp hw st1 (by rw [List.mem_singleton]; exact fun z => hd.1 z.symm) (by rw [List.mem_singleton]; exact fun z => hd.2.1 z.symm)
      refine c_write hS1 hw x1 (by rw [x2]; exact hd.1) (by rw [x2]; exact hd.2.1) (Or.inr rfl) (by omega) hl (fun G1 o1 sr1 q1 z1 z2 z3 z4 z5 z6 => ?_)
      refine wp_Ws_emitDue_51 ws mk si (nI pre.length) ?_
      rw [nI_1, hl']
      have hdw : ws ∉ [si, ls] ∧ lr ∉ [si, ls] ∧ lp ∉ [si, ls] := by simp; exact ⟨⟨hd.1, hd.2.1⟩, ⟨hd.2.2.1, hd.2.2.2.1⟩, hd.2.2.2.2.1, hd.2.2.2.2.2⟩
      have hW2 := hW1.stp st1.wf z3 hdw.1 hdw.2.1 hdw.2.2
      have wn1 := hW1.2.2.2.2.2.1
      have hmap : ∀ xs : List Nat, (∀ x ∈ xs, x ∈ rows) → xs.map (rW G1) = xs.map (rW (sI G 453 b 1)) := fun xs hxs => by
        refine List.map_congr_left (fun x hx => rW_sm (z3.sm (st1.wf x ?_) ?_))
        · rw [(wn1.2 x (List.mem_append_left _ (hxs x hx))).1]; omega
        · rw [(wn1.2 x (List.mem_append_left _ (hxs x hx))).2.1]; exact hdw.1
      have hrest : rest.map (rW G1) = rest.map (rW G) := (hmap rest (fun x hx => by rw [hr]; simp [hx])).trans (map_rW_ne nd2.2)
      have hpre : pre.map (rW G1) = pre.map (rW G) := (hmap pre (fun x hx => by rw [hr]; simp [hx])).trans (map_rW_ne nd2.1)
      have hbb : rW G1 b = setO (rW G b) 1 := by
        have := hmap [b] (fun x hx => by rw [List.mem_singleton] at hx; rw [hx]; exact hbm)
        simp at this
        rw [this, rW_sO]
      have hrec : recs (sI G 453 b 1) sr n = recs G sr n := hS.rec hw st1 (by rw [List.mem_singleton]; exact fun z => hd.1 z.symm) n
      have s1 : Stq [ws, si, ls] G o G1 o1 := (st1.mono (by simp)).tr (z3.mono (fun x hx => List.mem_cons_of_mem _ hx))
      refine ih (pre ++ [b]) G1 o1 p q1 (n + 1) sr1 hr' hW2 z1 z3.wf (by omega) (by omega) (fun G' o' q' n' sr' y1 y2 y3 y4 y5 y6 y7 y8 y9 y10 => ?_)
      rw [List.map_append, List.map_append] at y3
      have y3' := List.append_inj y3 (by simp)
      refine k G' o' q' n' sr' y1 y2 (y3'.1.trans hpre) ?_ ?_ (s1.tr y6) (Cs.tr (by exact z4) y7) (by omega) (fun m hm => ?_) (by omega)
      · have e0 : (if wO (rW G b) = 0 then setO (rW G b) 1 else rW G b) = setO (rW G b) 1 := if_pos c2
        show rW G' b :: rest.map (rW G') = if wE (rW G b) ≤ mk then _ else _
        rw [if_pos c1, e0, y4, hrest]
        have := y3'.2
        simp at this
        rw [this, hbb]
      · rw [y5, z2, hrest, hrec, rW_sO, List.append_assoc]
        congr 1
        show _ = (if wE (rW G b) ≤ mk then _ else _)
        rw [if_pos c1]
        show _ = (if wO (rW G b) = 0 then _ else _)
        rw [if_pos c2]
        rfl
      · rw [y9 m (by omega), z5 m hm]
        exact hS.rec hw st1 (by rw [List.mem_singleton]; exact fun z => hd.1 z.symm) m
    · have c1 : ¬ wE (rW G b) ≤ mk := c1
      refine k G o q n sr hW hS rfl ?_ ?_ (Stq.rf hw) Cs.rf (Nat.le_refl _) (fun _ _ => rfl) (Nat.le_max_left _ _)
      · show rW G b :: rest.map (rW G) = if wE (rW G b) ≤ mk then _ else _
        rw [if_neg c1]
      · show _ = _ ++ (if wE (rW G b) ≤ mk then _ else _)
        rw [if_neg c1, List.append_nil]
