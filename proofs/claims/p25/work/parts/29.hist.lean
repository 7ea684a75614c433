/-- the last one of a key and a beginning -/
def lastR (k s : Int32) : Option WT → List WT → Option WT
  | acc, [] => acc
  | acc, w :: L => lastR k s (if isW k s w then some w else acc) L
theorem c_lastCommitted {E : EV} {G : GH} {Post : Res → GH → Prop} {o : Nat → Nat} {si ls n q cm : Nat} {rows : List Nat} {pr key start : Int32} (h : SiR E G o si ls rows (nI cm) pr n q) (hcm : cm ≤ n) (hn : rows.length ≤ 2999)
    (k : ∀ r : Option Nat, r.map (rW G) = lastR key start none (recs G rows cm) → (∀ b, r = some b → gT G b = 8) → Post (.inl (some (va_rf r))) G) : Cl E 4 m_Si_lastCommitted [.ref si, .int key, .int start] G Post := by
  obtain ⟨a1, a2, a3, a4, a5, a6, a7, a8, a9, c, b1, b2⟩ := h
  have loop : ∀ (m i : Nat) (r : Option Nat), m + i = cm → (∀ b, r = some b → gT G b = 8) → lastR key start (r.map (rW G)) (((rows.take cm).drop i).map (rW G)) = lastR key start none (recs G rows cm) → J E 4 m_Si_lastCommitted 5 [some (.ref si), some (.int key), some (.int start), some (va_rf r), some (.int (nI i)), none] [] G Post := by
    intro m
    induction m with
    | zero =>
      intro i r hmi hr hl
      refine wp_Si_lastCommitted_5 si key start r (nI i) ⟨a1, ?_⟩
      rw [a4, nI_leI (by omega) (by omega)]
      refine ⟨fun _ => k r ?_ hr, fun z => absurd (by omega) z⟩
      rw [← hl, List.drop_eq_nil_of_le (by rw [List.length_take]; omega)]
      rfl
    | succ m ih =>
      intro i r hmi hr hl
      refine wp_Si_lastCommitted_5 si key start r (nI i) ⟨a1, ?_⟩
      rw [a4, nI_leI (by omega) (by omega)]
      refine ⟨fun z => absurd z (by omega), fun _ => ⟨ls, a3, b1.tg, ?_⟩⟩
      rw [b1.sz, nI_leI (by omega) (by omega), nI_1]
      obtain ⟨b, hb⟩ : ∃ b, rows[i]? = some b := ⟨_, List.getElem?_eq_getElem (by omega)⟩
      have tb := a9.2 b (List.mem_of_getElem? hb)
      have hcons : (rows.take cm).drop i = b :: (rows.take cm).drop (i + 1) := by
        have h1 : i < (rows.take cm).length := by rw [List.length_take]; omega
        rw [List.drop_eq_getElem_cons h1, List.getElem_take]
        rw [List.getElem?_eq_getElem (by omega)] at hb
        rw [Option.some.inj hb]
      rw [hcons] at hl
      have skip : ¬ isW key start (rW G b) → J E 4 m_Si_lastCommitted 5 [some (.ref si), some (.int key), some (.int start), some (va_rf r), some (.int (nI (i + 1))), none] [] G Post := fun hno => ih (i + 1) r (by omega) hr (by
        have e : lastR key start (r.map (rW G)) ((b :: (rows.take cm).drop (i + 1)).map (rW G)) = lastR key start (if isW key start (rW G b) then some (rW G b) else r.map (rW G)) (((rows.take cm).drop (i + 1)).map (rW G)) := rfl
        rw [e, if_neg hno] at hl
        exact hl)
      refine ⟨fun z => absurd z (by omega), fun _ => ⟨b, b1.lg hb, tb.1, fun c => skip (fun z => c z.1), fun c1 => ⟨fun c => skip (fun z => c z.2), fun c2 => ?_⟩⟩⟩
      refine ih (i + 1) (some b) (by omega) (fun b' hb' => by rw [← Option.some.inj hb']; exact tb.1) ?_
      have e : lastR key start (r.map (rW G)) ((b :: (rows.take cm).drop (i + 1)).map (rW G)) = lastR key start (if isW key start (rW G b) then some (rW G b) else r.map (rW G)) (((rows.take cm).drop (i + 1)).map (rW G)) := rfl
      have c3 : isW key start (rW G b) := ⟨c1, c2⟩
      rw [e, if_pos c3] at hl
      exact hl
  refine j_enter (L := [some (.ref si), some (.int key), some (.int start), none, none, none]) me_Si_lastCommitted (cat_c rfl (cat_c rfl (cat_c rfl cat_n))) (Nat.le_of_ble_eq_true rfl) rfl (wp_Si_lastCommitted_0 si key start ?_)
  exact loop cm 0 none rfl (fun b hb => by cases hb) rfl
/-! History -/
abbrev ET : Type := Int32 × Int32 × Int32 × Int32 × Int32
def rE (G : GH) (a : Nat) : ET := (gI G 64 a, gI G 65 a, gI G 66 a, gI G 67 a, gI G 68 a)
theorem rE_sm {G G' : GH} {a : Nat} (h : Sm G G' a) : rE G' a = rE G a := by
  have := h.2.2.1
  unfold rE
  rw [this, this, this, this, this]
def HiR (E : EV) (G : GH) (o : Nat → Nat) (hi lh ga : Nat) (evs : List Nat) (cl : Nat) (cw : Int32) (c : Nat) : Prop :=
  gT G hi = 3 ∧ o hi = hi ∧ gR G 128 hi = some lh ∧ gI G 129 hi = nI cl ∧ gI G 130 hi = cw ∧ gR G 131 hi = some ga ∧ gT G ga = 8 ∧ o ga = hi ∧ lh ≠ hi ∧ LA E G o lh evs c ∧ ∀ x ∈ evs, gT G x = 2
theorem HiR.stp {E : EV} {S : List Nat} {G G' : GH} {o o' : Nat → Nat} {hi lh ga cl c : Nat} {evs : List Nat} {cw : Int32} (h : HiR E G o hi lh ga evs cl cw c) (hw : Wf G) (s : Stq S G o G' o') (h1 : hi ∉ S) (h2 : lh ∉ S) : HiR E G' o' hi lh ga evs cl cw c := by
  obtain ⟨a1, a2, a3, a4, a5, a6, a7, a8, a9, b1, b2⟩ := h
  have hz := hw hi (by omega)
  have sb := s.sm hz (by rw [a2]; exact h1)
  exact ⟨by rw [sb.1]; exact a1, (s.ow hz).trans a2, by rw [sb.2.2.2.1]; exact a3, by rw [sb.2.2.1]; exact a4, by rw [sb.2.2.1]; exact a5, by rw [sb.2.2.2.1]; exact a6, s.tg' hw a7 (by omega), (s.ow (hw ga (by omega))).trans a8, a9, b1.stp hw s h2, fun x hx => s.tg' hw (b2 x hx) (by omega)⟩
/-- cutTo -/
theorem c_cutTo {E : EV} {Post : Res → GH → Prop} {hi lh ga cl n : Nat} {cw : Int32} (hn : n ≤ 2999) : ∀ (m : Nat) (G : GH) (o : Nat → Nat) (evs : List Nat) (c : Nat), evs.length ≤ n + m → HiR E G o hi lh ga evs cl cw c → Wf G →
    (∀ G' c', HiR E G' o hi lh ga (evs.take n) cl cw c' → Stq [lh] G o G' o → c' = c → gz G' = gz G → gs G' = gs G → Post (.inl none) G') → J E 4 m_Hi_cutTo 10 [some (.ref hi), some (.int (nI n)), some (.int (nI evs.length - 1))] [] G Post := by
  intro m
  induction m with
  | zero =>
    intro G o evs c hm h hw k
    refine wp_Hi_cutTo_10 hi (nI n) (nI evs.length - 1) ⟨fun _ => k G c (by rw [List.take_of_length_le (by omega)]; exact h) (Stq.rf hw) rfl rfl rfl, fun z => absurd ?_ z⟩
    rcases Nat.eq_zero_or_pos evs.length with h0 | h0
    · rw [h0]
      have e : nI 0 - 1 = (-1 : Int32) := by decide +kernel
      rw [e]
      exact Int32.lt_iff_toInt_lt.mpr (by rw [nI_toInt (by omega)]; have : (-1 : Int32).toInt = -1 := by decide +kernel
                                          omega)
    · rw [show nI evs.length - 1 = nI (evs.length - 1) from nI_sub (b := 1) h0]
      exact nI_lt (by omega) (by omega)
  | succ m ih =>
    intro G o evs c hm h hw k
    by_cases hc : evs.length ≤ n + m
    · exact ih G o evs c hc h hw k
    obtain ⟨a1, a2, a3, a4, a5, a6, a7, a8, a9, b1, b2⟩ := id h
    have hle := b1.le
    have hpos : 0 < evs.length := by omega
    have e1 : nI evs.length - 1 = nI (evs.length - 1) := nI_sub (b := 1) hpos
    rw [e1]
    refine wp_Hi_cutTo_10 hi (nI n) (nI (evs.length - 1)) ⟨fun z => absurd z (nI_nlt (by omega) (by omega)), fun _ => ⟨a1, lh, a3, b1.tg, ?_⟩⟩
    obtain ⟨b, hb⟩ : ∃ b, evs[evs.length - 1]? = some b := ⟨_, List.getElem?_eq_getElem (by omega)⟩
    refine c_AL_remove b1 hw (fun x hx => OB.of2 (b2 x hx)) hb (fun G1 hla st hz hgs => ?_)
    have q1 : evs.eraseIdx (evs.length - 1) = evs.take (evs.length - 1) := by
      rw [List.eraseIdx_eq_dropLast (by omega), List.dropLast_eq_take]
    rw [q1] at hla
    have hl1 : (evs.take (evs.length - 1)).length = evs.length - 1 := by rw [List.length_take]; omega
    have nh : hi ∉ [lh] := by rw [List.mem_singleton]; exact fun z => a9 z.symm
    have sb := st.sm (hw hi (by omega)) (by rw [a2]; exact nh)
    have h1 : HiR E G1 o hi lh ga (evs.take (evs.length - 1)) cl cw c := ⟨by rw [sb.1]; exact a1, a2, by rw [sb.2.2.2.1]; exact a3, by rw [sb.2.2.1]; exact a4, by rw [sb.2.2.1]; exact a5, by rw [sb.2.2.2.1]; exact a6, st.tg' hw a7 (by omega), a8, a9, hla, fun x hx => st.tg' hw (b2 x (List.mem_of_mem_take hx)) (by omega)⟩
    refine wp_Hi_cutTo_23 hi (nI n) (nI (evs.length - 1)) b ?_
    have e2 : nI (evs.length - 1) + (-1 : Int32) = nI (evs.take (evs.length - 1)).length - 1 := by rw [hl1, Int32.sub_eq_add_neg]
    rw [e2]
    refine ih G1 o (evs.take (evs.length - 1)) c (by omega) h1 st.wf (fun G' c' y1 y2 y3 y4 y5 => k G' c' ?_ (st.tr y2) y3 (y4.trans hz) (y5.trans hgs))
    rw [List.take_take, Nat.min_eq_left (by omega)] at y1
    exact y1
theorem c_Hi_cutTo {E : EV} {G : GH} {Post : Res → GH → Prop} {o : Nat → Nat} {hi lh ga cl n c : Nat} {cw : Int32} {evs : List Nat} (hn : n ≤ 2999) (h : HiR E G o hi lh ga evs cl cw c) (hw : Wf G)
    (k : ∀ G', HiR E G' o hi lh ga (evs.take n) cl cw c → Stq [lh] G o G' o → gz G' = gz G → gs G' = gs G → Post (.inl none) G') : Cl E 4 m_Hi_cutTo [.ref hi, .int (nI n)] G Post := by
  refine j_enter (L := [some (.ref hi), some (.int (nI n)), none]) me_Hi_cutTo (cat_c rfl (cat_c rfl cat_n)) (Nat.le_of_ble_eq_true rfl) rfl (wp_Hi_cutTo_0 hi (nI n) ⟨h.1, lh, h.2.2.1, h.2.2.2.2.2.2.2.2.2.1.tg, ?_⟩)
  rw [h.2.2.2.2.2.2.2.2.2.1.sz]
  exact c_cutTo hn evs.length G o evs c (by omega) h hw (fun G' c' y1 y2 y3 y4 y5 => k G' (y3 ▸ y1) y2 y4 y5)
