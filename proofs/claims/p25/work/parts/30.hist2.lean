abbrev eS (e : ET) : Int32 := e.1
abbrev eT (e : ET) : Int32 := e.2.1
abbrev eK (e : ET) : Int32 := e.2.2.1
abbrev eV (e : ET) : Int32 := e.2.2.2.1
abbrev eX (e : ET) : Int32 := e.2.2.2.2
/-- the event came to a window of the key with this end -/
abbrev admE (kd sz gr key en : Int32) (e : ET) : Prop := eK e = key ∧ (if kd = 2 then ¬ eT e + sz + gr ≤ eX e else ¬ en + gr ≤ eX e)
theorem HiR.len {E : EV} {G : GH} {o : Nat → Nat} {hi lh ga cl c : Nat} {evs : List Nat} {cw : Int32} (h : HiR E G o hi lh ga evs cl cw c) : evs.length ≤ 6000 := by
  have := h.2.2.2.2.2.2.2.2.2.1.le
  omega
theorem c_admittedAt {E : EV} {G : GH} {Post : Res → GH → Prop} {o : Nat → Nat} {hi lh ga cl c jb j b : Nat} {cw kd sz gr key en : Int32} {evs : List Nat} (h : HiR E G o hi lh ga evs cl cw c) (hcl : cl ≤ evs.length) (hjb : gT G jb = 4) (hkd : gI G 192 jb = kd) (hsz : gI G 193 jb = sz) (hgr : gI G 195 jb = gr) (hj : j < cl) (hb : evs[j]? = some b)
    (k1 : gT G b = 2 → admE kd sz gr key en (rE G b) → Post (.inl (some (va_rf (some b)))) G) (k2 : ¬ admE kd sz gr key en (rE G b) → Post (.inl (some (va_rf none))) G) : Cl E 4 m_Hi_admittedAt [.ref hi, .int (nI j), .ref jb, .int key, .int en] G Post := by
  have hlen := h.len
  obtain ⟨a1, a2, a3, a4, a5, a6, a7, a8, a9, b1, b2⟩ := h
  have tb := b2 b (List.mem_of_getElem? hb)
  refine j_enter (L := [some (.ref hi), some (.int (nI j)), some (.ref jb), some (.int key), some (.int en), none]) me_Hi_admittedAt (cat_c rfl (cat_c rfl (cat_c rfl (cat_c rfl (cat_c rfl cat_n))))) (Nat.le_of_ble_eq_true rfl) rfl (wp_Hi_admittedAt_0 hi (nI j) jb key en ⟨fun z => absurd z (nI_pos (by omega)), fun _ => ⟨a1, lh, a3, b1.tg, ?_⟩⟩)
  rw [b1.sz, nI_leI (by omega) (by omega), a4, nI_ltI (by omega) (by omega)]
  refine ⟨fun z => absurd z (by omega), fun _ => ⟨fun _ => ⟨b, b1.lg hb, tb, fun c => k2 (fun z => c z.1), fun c => ⟨hjb, ?_⟩⟩, fun z => absurd hj z⟩⟩
  rw [hkd, hsz, hgr]
  refine ⟨fun c1 => ⟨fun c2 => k2 (fun z => ?_), fun c2 => k1 tb ⟨c, ?_⟩⟩, fun c1 => ⟨fun c2 => k2 (fun z => ?_), fun c2 => k1 tb ⟨c, ?_⟩⟩⟩
  · have := z.2
    rw [if_neg c1] at this
    exact this c2
  · rw [if_neg c1]; exact c2
  · have := z.2
    rw [if_pos c1] at this
    exact this c2
  · rw [if_pos c1]; exact c2
def fur (kd sz gr key start : Int32) : Int32 → List ET → Int32
  | f, [] => f
  | f, e :: L => fur kd sz gr key start (if admE kd sz gr key (-1) e then (if eT e < start then f else if f ≤ eT e then f else if f < eT e + sz then eT e + sz else f) else f) L
theorem take_drop_cons {xs : List Nat} {n i b : Nat} (h : xs[i]? = some b) (hi : i < n) : (xs.take n).drop i = b :: (xs.take n).drop (i + 1) := by
  have hl : i < xs.length := (List.getElem?_eq_some_iff.mp h).1
  have h1 : i < (xs.take n).length := by rw [List.length_take]; omega
  rw [List.drop_eq_getElem_cons h1, List.getElem_take]
  rw [List.getElem?_eq_getElem hl] at h
  rw [Option.some.inj h]
/-- the committed events -/
def cev (G : GH) (evs : List Nat) (cl : Nat) : List ET := (evs.take cl).map (rE G)
theorem c_furthestEnd {E : EV} {G : GH} {Post : Res → GH → Prop} {o : Nat → Nat} {hi lh ga cl c jb : Nat} {cw kd sz gr key start en : Int32} {evs : List Nat} (h : HiR E G o hi lh ga evs cl cw c) (hcl : cl ≤ evs.length) (hjb : gT G jb = 4) (hkd : gI G 192 jb = kd) (hsz : gI G 193 jb = sz) (hgr : gI G 195 jb = gr)
    (k : Post (.inl (some (.int (fur kd sz gr key start en (cev G evs cl))))) G) : Cl E 5 m_Hi_furthestEnd [.ref hi, .ref jb, .int key, .int start, .int en] G Post := by
  have hlen := h.len
  have loop : ∀ (m i : Nat) (f : Int32), m + i = cl → fur kd sz gr key start f (((evs.take cl).drop i).map (rE G)) = fur kd sz gr key start en (cev G evs cl) → J E 5 m_Hi_furthestEnd 7 [some (.ref hi), some (.ref jb), some (.int key), some (.int start), none, some (.int f), some (.int (nI i)), none] [] G Post := by
    intro m
    induction m with
    | zero =>
      intro i f hmi hf
      refine wp_Hi_furthestEnd_7 hi jb key start f (nI i) ⟨h.1, ?_⟩
      rw [h.2.2.2.1, nI_leI (by omega) (by omega)]
      refine ⟨fun _ => ?_, fun z => absurd (by omega) z⟩
      rw [List.drop_eq_nil_of_le (by rw [List.length_take]; omega)] at hf
      rw [← hf] at k
      exact k
    | succ m ih =>
      intro i f hmi hf
      obtain ⟨b, hb⟩ : ∃ b, evs[i]? = some b := ⟨_, List.getElem?_eq_getElem (by omega)⟩
      rw [take_drop_cons hb (by omega)] at hf
      have hf' : fur kd sz gr key start (if admE kd sz gr key (-1) (rE G b) then (if eT (rE G b) < start then f else if f ≤ eT (rE G b) then f else if f < eT (rE G b) + sz then eT (rE G b) + sz else f) else f) (((evs.take cl).drop (i + 1)).map (rE G)) = fur kd sz gr key start en (cev G evs cl) := hf
      have next : ∀ g, (if admE kd sz gr key (-1) (rE G b) then (if eT (rE G b) < start then f else if f ≤ eT (rE G b) then f else if f < eT (rE G b) + sz then eT (rE G b) + sz else f) else f) = g → J E 5 m_Hi_furthestEnd 7 [some (.ref hi), some (.ref jb), some (.int key), some (.int start), none, some (.int g), some (.int (nI (i + 1))), none] [] G Post := fun g hg => ih (i + 1) g (by omega) (by rw [← hg]; exact hf')
      refine wp_Hi_furthestEnd_7 hi jb key start f (nI i) ⟨h.1, ?_⟩
      rw [h.2.2.2.1, nI_leI (by omega) (by omega)]
      refine ⟨fun z => absurd z (by omega), fun _ => c_admittedAt h hcl hjb hkd hsz hgr (by omega) hb (fun tb had => ?_) (fun hna => ?_)⟩
      · refine wp_Hi_furthestEnd_25 hi jb key start f (nI i) (some b) ⟨fun z => (by cases z), fun r1 hr1 => ?_⟩
        rw [← Option.some.inj hr1, nI_1, hsz]
        refine ⟨tb, fun c1 => next f ((if_pos had).trans (if_pos c1)), fun c1 => ⟨fun c2 => next f ((if_pos had).trans ((if_neg c1).trans (if_pos c2))), fun c2 => ⟨hjb, next _ ((if_pos had).trans ((if_neg c1).trans (if_neg c2)))⟩⟩⟩
      · refine wp_Hi_furthestEnd_25 hi jb key start f (nI i) none ⟨fun _ => ?_, fun r1 hr1 => (by cases hr1)⟩
        rw [nI_1]
        exact next f (if_neg hna)
  refine j_enter (L := [some (.ref hi), some (.ref jb), some (.int key), some (.int start), some (.int en), none, none, none]) me_Hi_furthestEnd (cat_c rfl (cat_c rfl (cat_c rfl (cat_c rfl (cat_c rfl cat_n))))) (Nat.le_of_ble_eq_true rfl) rfl (wp_Hi_furthestEnd_0 hi jb key start en ?_)
  exact loop cl 0 en rfl rfl
def gat (kd sz gr key en : Int32) : WT → List ET → WT
  | w, [] => w
  | w, e :: L => gat kd sz gr key en (if admE kd sz gr key en e then (if eT e < wS w then w else if wE w ≤ eT e then w else addV w (eV e)) else w) L
theorem c_gather {E : EV} {G : GH} {Post : Res → GH → Prop} {o : Nat → Nat} {hi lh ga cl c jb : Nat} {cw kd sz gr key start en : Int32} {evs : List Nat} (h : HiR E G o hi lh ga evs cl cw c) (hw : Wf G) (hcl : cl ≤ evs.length) (hjb : gT G jb = 4) (hkd : gI G 192 jb = kd) (hsz : gI G 193 jb = sz) (hgr : gI G 195 jb = gr)
    (k : ∀ G', HiR E G' o hi lh ga evs cl cw c → rW G' ga = gat kd sz gr key en (key, start, en, 0, 0, 0) (cev G evs cl) → (∀ q, q ≠ ga → Sm G G' q) → Stq [hi] G o G' o → gz G' = gz G → gs G' = gs G → Post (.inl (some (.ref ga))) G') : Cl E 5 m_Hi_gather [.ref hi, .ref jb, .int key, .int start, .int en] G Post := by
  have hlen := h.len
  obtain ⟨a1, a2, a3, a4, a5, a6, a7, a8, a9, b1, b2⟩ := id h
  have hga : hi ≠ ga := fun z => by rw [z] at a1; omega
  have hjg : jb ≠ ga := fun z => by rw [z] at hjb; omega
  have keep : ∀ G1, (∀ q, q ≠ ga → Sm G G1 q) → Stq [hi] G o G1 o → HiR E G1 o hi lh ga evs cl cw c := fun G1 hs st => by
    have sb := hs hi hga
    exact ⟨by rw [sb.1]; exact a1, a2, by rw [sb.2.2.2.1]; exact a3, by rw [sb.2.2.1]; exact a4, by rw [sb.2.2.1]; exact a5, by rw [sb.2.2.2.1]; exact a6, st.tg' hw a7 (by omega), a8, a9, b1.stp hw st (by rw [List.mem_singleton]; exact a9), fun x hx => st.tg' hw (b2 x hx) (by omega)⟩
  have loop : ∀ (m i : Nat) (G1 : GH), m + i = cl → (∀ q, q ≠ ga → Sm G G1 q) → Stq [hi] G o G1 o → gz G1 = gz G → gs G1 = gs G → gat kd sz gr key en (rW G1 ga) (((evs.take cl).drop i).map (rE G)) = gat kd sz gr key en (key, start, en, 0, 0, 0) (cev G evs cl) → J E 5 m_Hi_gather 14 [some (.ref hi), some (.ref jb), some (.int key), none, some (.int en), some (.int (nI i)), none] [] G1 Post := by
    intro m
    induction m with
    | zero =>
      intro i G1 hmi hs st hz hg hf
      have h1 := keep G1 hs st
      refine wp_Hi_gather_14 hi jb key en (nI i) ⟨h1.1, ?_⟩
      rw [h1.2.2.2.1, nI_leI (by omega) (by omega)]
      refine ⟨fun _ => ⟨ga, h1.2.2.2.2.2.1, k G1 h1 ?_ hs st hz hg⟩, fun z => absurd (by omega) z⟩
      rw [List.drop_eq_nil_of_le (by rw [List.length_take]; omega)] at hf
      exact hf
    | succ m ih =>
      intro i G1 hmi hs st hz hg hf
      have h1 := keep G1 hs st
      obtain ⟨b, hb⟩ : ∃ b, evs[i]? = some b := ⟨_, List.getElem?_eq_getElem (by omega)⟩
      have tb0 := b2 b (List.mem_of_getElem? hb)
      have hbg : b ≠ ga := fun z => by rw [z] at tb0; omega
      have eb : rE G1 b = rE G b := rE_sm (hs b hbg)
      rw [take_drop_cons hb (by omega)] at hf
      have hf' : gat kd sz gr key en (if admE kd sz gr key en (rE G b) then (if eT (rE G b) < wS (rW G1 ga) then rW G1 ga else if wE (rW G1 ga) ≤ eT (rE G b) then rW G1 ga else addV (rW G1 ga) (eV (rE G b))) else rW G1 ga) (((evs.take cl).drop (i + 1)).map (rE G)) = gat kd sz gr key en (key, start, en, 0, 0, 0) (cev G evs cl) := hf
      have sj := hs jb hjg
      have same : (if admE kd sz gr key en (rE G b) then (if eT (rE G b) < wS (rW G1 ga) then rW G1 ga else if wE (rW G1 ga) ≤ eT (rE G b) then rW G1 ga else addV (rW G1 ga) (eV (rE G b))) else rW G1 ga) = rW G1 ga → J E 5 m_Hi_gather 14 [some (.ref hi), some (.ref jb), some (.int key), none, some (.int en), some (.int (nI (i + 1))), none] [] G1 Post := fun hg' => ih (i + 1) G1 (by omega) hs st hz hg (by rw [hg'] at hf'; exact hf')
      refine wp_Hi_gather_14 hi jb key en (nI i) ⟨h1.1, ?_⟩
      rw [h1.2.2.2.1, nI_leI (by omega) (by omega)]
      refine ⟨fun z => absurd z (by omega), fun _ => c_admittedAt (kd := kd) (sz := sz) (gr := gr) h1 hcl (sj.1.trans hjb) ((sj.2.2.1 _).trans hkd) ((sj.2.2.1 _).trans hsz) ((sj.2.2.1 _).trans hgr) (by omega) hb (fun tb had => ?_) (fun hna => ?_)⟩
      · rw [eb] at had
        have et : gI G1 65 b = eT (rE G b) := by rw [← eb]; rfl
        have ev : gI G1 67 b = eV (rE G b) := by rw [← eb]; rfl
        refine wp_Hi_gather_33 hi jb key en (nI i) (some b) ⟨fun z => (by cases z), fun r1 hr1 => ?_⟩
        rw [← Option.some.inj hr1, nI_1, et, ev]
        refine ⟨h1.1, ga, h1.2.2.2.2.2.1, tb, h1.2.2.2.2.2.2.1, fun c1 => same ((if_pos had).trans (if_pos (c := eT (rE G b) < wS (rW G1 ga)) c1)), fun c1 => ⟨fun c2 => same ((if_pos had).trans ((if_neg (c := eT (rE G b) < wS (rW G1 ga)) c1).trans (if_pos (c := wE (rW G1 ga) ≤ eT (rE G b)) c2))), fun c2 => ?_⟩⟩
        have c1 : ¬ eT (rE G b) < wS (rW G1 ga) := c1
        have c2 : ¬ wE (rW G1 ga) ≤ eT (rE G b) := c2
        have hq : ga < gz G → o ga ∈ [hi] := fun _ => by rw [a8]; exact in1
        have er : rW (sI (sI G1 451 ga (gI G1 451 ga + 1)) 452 ga (gI G1 452 ga + eV (rE G b))) ga = addV (rW G1 ga) (eV (rE G b)) := by
          refine rW_mk ?_ ?_ ?_ ?_ ?_ ?_
          · rw [gI_sI, if_neg (fun z => absurd z.1 (by omega)), gI_sI, if_neg (fun z => absurd z.1 (by omega))]; rfl
          · rw [gI_sI, if_neg (fun z => absurd z.1 (by omega)), gI_sI, if_neg (fun z => absurd z.1 (by omega))]; rfl
          · rw [gI_sI, if_neg (fun z => absurd z.1 (by omega)), gI_sI, if_neg (fun z => absurd z.1 (by omega))]; rfl
          · rw [gI_sI, if_neg (fun z => absurd z.1 (by omega)), gI_sI, if_pos ⟨rfl, rfl⟩]; rfl
          · rw [gI_sI, if_pos ⟨rfl, rfl⟩]; rfl
          · rw [gI_sI, if_neg (fun z => absurd z.1 (by omega)), gI_sI, if_neg (fun z => absurd z.1 (by omega))]; rfl
        refine ih (i + 1) _ (by omega) (fun q hq => (hs q hq).tr ((sI_sm hq).tr (sI_sm hq))) ((st.wI hq).wI hq) hz hg ?_
        rw [er]
        rw [if_pos had, if_neg c1, if_neg c2] at hf'
        exact hf'
      · rw [eb] at hna
        refine wp_Hi_gather_33 hi jb key en (nI i) none ⟨fun _ => ?_, fun r1 hr1 => (by cases hr1)⟩
        rw [nI_1]
        exact same (if_neg hna)
  refine j_enter (L := [some (.ref hi), some (.ref jb), some (.int key), some (.int start), some (.int en), none, none]) me_Hi_gather (cat_c rfl (cat_c rfl (cat_c rfl (cat_c rfl (cat_c rfl cat_n))))) (Nat.le_of_ble_eq_true rfl) rfl (wp_Hi_gather_0 hi jb key start en ⟨a1, ga, a6, a7, fun G5 h5 => ?_⟩)
  have hq : ga < gz G → o ga ∈ [hi] := fun _ => by rw [a8]; exact in1
  have r5 : ∀ f, gI G5 f ga = if f = 453 then 0 else if f = 452 then 0 else if f = 451 then 0 else if f = 450 then en else if f = 449 then start else if f = 448 then key else gI G f ga := fun f => by
    rw [h5]
    simp only [gI_sI, and_true]
  have e5 : rW G5 ga = (key, start, en, 0, 0, 0) := rW_mk (r5 448) (r5 449) (r5 450) (r5 451) (r5 452) (r5 453)
  refine loop cl 0 G5 rfl (fun q hq => ?_) ?_ (by rw [h5]; rfl) (by rw [h5]; rfl) (by rw [e5]; rfl)
  · rw [h5]
    exact (((((sI_sm hq).tr (sI_sm hq)).tr (sI_sm hq)).tr (sI_sm hq)).tr (sI_sm hq)).tr (sI_sm hq)
  · rw [h5]
    exact ((((((Stq.rf hw).wI hq).wI hq).wI hq).wI hq).wI hq).wI hq
