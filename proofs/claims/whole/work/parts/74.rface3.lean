/-- an event of the join's row: its code, and what it is -/
abbrev JV : Type := Nat × V3
def jv (sc : SC) (j : Nat) : JV := (j, (sEv sc (j / 40)).getD (j % 40) (0, 0, 0))
abbrev jp (reach : Int32) (a b : JV) : Prop := a.1 < 40 ∧ ¬ b.1 < 40 ∧ a.2.2.1 = b.2.2.1 ∧ ¬ reach < a.2.1 - b.2.1 ∧ ¬ reach < -(a.2.1 - b.2.1)
def jc1 (reach : Int32) (a : JV) : Int32 → List JV → Int32
  | c, [] => c
  | c, b :: L => jc1 reach a (if jp reach a b then c + 1 else c) L
def jc2 (reach : Int32) (L0 : List JV) : Int32 → List JV → Int32
  | c, [] => c
  | c, a :: L => jc2 reach L0 (jc1 reach a c L0) L
section RFACE3
variable {E : EV} {G : GH} {Post : Res → GH → Prop} {m : Nat} {B : Nat → Nat} {th : Int32} {y : XS} {Jd : List Nat} {JK : Nat} {F : Nat → Int32} {T : Nat → Nat → Int32}
theorem drop_at {α : Type} {L : List α} {i : Nat} {b : α} (h : L[i]? = some b) : L.drop i = b :: L.drop (i + 1) := by
  have il := List.getElem?_eq_some_iff.mp h
  rw [List.drop_eq_getElem_cons il.1, il.2]
theorem r_sumAt {q t : Int32} (h : MS G m B th y Jd JK) (k : KR G m B Post (fSumAt y q t).1 (fSumAt y q t).2.1 y Jd JK) : Cl E 3 m_Mo_sumAt [.ref m, .int q, .int t] G Post := by
  have h0 := h
  obtain ⟨F, T, h1, ha⟩ := h
  obtain ⟨x1, x2, x3, x4, x5, x6, x7, x8, x9, x10, x11, x12, x13, x14, x15, x16, x17, x18⟩ := ha
  obtain ⟨n0, n1, n2⟩ := id x8
  unfold fSumAt at k
  refine j_enter (L := [some (.ref m), some (.int q), some (.int t), none, none, none]) me_Mo_sumAt (cat_c rfl (cat_c rfl (cat_c rfl cat_n))) (Nat.le_of_ble_eq_true rfl) rfl (wp_Mo_sumAt_0 m q t ⟨fun c1 => ⟨h0.tg, ?_⟩, fun c1 => ⟨fun c2 => ⟨h0.tg, ?_⟩, fun c2 => ⟨fun c3 => ⟨h0.tg, ?_⟩, fun c3 => ⟨fun c4 => ⟨h0.tg, ?_⟩, fun c4 => ⟨h0.tg, ?_⟩⟩⟩⟩⟩)
  · rw [if_pos c1] at k; exact KR.exc (n := 0) h0 k
  · rw [if_neg c1, if_pos (lt56.mp c2)] at k; exact KR.exc (n := 0) h0 k
  · rw [if_neg c1, if_neg (fun z => c2 (lt56.mpr z)), if_pos c3] at k; exact KR.exc (n := 1) h0 k
  · rw [if_neg c1, if_neg (fun z => c2 (lt56.mpr z)), if_neg c3, if_neg (Int32.not_le.mpr c4)] at k; exact KR.exc (n := 1) h0 k
  rw [if_neg c1, if_neg (fun z => c2 (lt56.mpr z)), if_neg c3, if_pos (Int32.not_lt.mp c4)] at k
  have h2 := h1.wI 0 0
  have hk := k _ (h0.code 0) MSt.rf.wI _ (fun _ => rfl)
  have e29 : gI (sI G 640 m 0) 669 m = nI (gWi (cN y)).length := (h2.int 29 (by decide) (by decide)).trans n0
  have e1 : gI (sI G 640 m 0) 641 m = cJ y 0 := (h2.int 1 (by decide) (by decide)).trans x2.1
  have e2 : gI (sI G 640 m 0) 642 m = cJ y 1 := (h2.int 2 (by decide) (by decide)).trans x2.2.1
  have e4 : gI (sI G 640 m 0) 644 m = cJ y 3 := (h2.int 4 (by decide) (by decide)).trans x2.2.2.2.1
  have e18 : gI (sI G 640 m 0) 658 m = gMk (cN y) := (h2.int 18 (by decide) (by decide)).trans x6
  generalize sI G 640 m 0 = G1 at *
  generalize gWi (cN y) = W at *
  have ix : ∀ j, 23 ≤ j → j ≤ 28 → ∀ a, a < 1000 → IX (nI a) a (gN G1 (B j)) := fun j g1 g2 a ha => h2.ix j (by unfold aK; simp; omega) (by unfold aN; rw [if_neg (by omega), if_neg (by omega), if_pos (by omega)]; exact ha)
  have loop : ∀ (d i : Nat) (p : Int32) (r : Option WT), d + i = W.length → bestS (cJ y) (gMk (cN y)) q t r (W.drop i) = bestS (cJ y) (gMk (cN y)) q t none W → ((p = -1 ∧ r = none) ∨ ∃ f u, p = nI f ∧ W[f]? = some u ∧ r = some u) → J E 3 m_Mo_sumAt 41 [some (.ref m), some (.int q), some (.int t), some (.int p), some (.int (nI i)), none] [] G1 Post := by
    intro d
    induction d with
    | zero =>
      intro i p r hdi hc hp
      refine wp_Mo_sumAt_41 m q t p (nI i) ⟨h2.tg, ?_⟩
      rw [e29, nI_leI (by omega) (by omega)]
      rw [List.drop_eq_nil_of_le (by omega)] at hc
      have hc : r = _ := hc
      rw [← hc] at hk
      refine ⟨fun _ => ?_, fun z => absurd (by omega) z⟩
      rcases hp with ⟨e, er⟩ | ⟨f, u, e, hf, er⟩
      · rw [er] at hk
        exact ⟨fun z => absurd e z, fun _ => hk⟩
      · subst e
        rw [er] at hk
        have il := (List.getElem?_eq_some_iff.mp hf).1
        refine ⟨fun _ => ⟨B 27, h2.rf 27 rfl, Or.inl (h2.at' 27 rfl), f, ix 27 (by decide) (by decide) f (by omega), ?_⟩, fun z => absurd z (nI_ne1 (by omega))⟩
        rw [h2.rd 27 rfl, show T 27 f = wM u from (n2 f u hf).2.2.2.2.1]
        exact hk
    | succ d ih =>
      intro i p r hdi hc hp
      obtain ⟨w, hw⟩ : ∃ w, W[i]? = some w := ⟨_, List.getElem?_eq_getElem (by omega)⟩
      obtain ⟨q1, q2, q3, q4, q5, q6, q7⟩ := n2 i w hw
      rw [drop_at hw] at hc
      have hc : bestS (cJ y) (gMk (cN y)) q t (if hasM (cJ y) (gMk (cN y)) q t w then bst r w else r) (W.drop (i + 1)) = _ := hc
      have no : ¬ hasM (cJ y) (gMk (cN y)) q t w → J E 3 m_Mo_sumAt 41 [some (.ref m), some (.int q), some (.int t), some (.int p), some (.int (nI (i + 1))), none] [] G1 Post := fun z => ih (i + 1) p r (by omega) (by rw [if_neg z] at hc; exact hc) hp
      have new : hasM (cJ y) (gMk (cN y)) q t w → bst r w = some w → J E 3 m_Mo_sumAt 41 [some (.ref m), some (.int q), some (.int t), some (.int (nI i)), some (.int (nI (i + 1))), none] [] G1 Post := fun z e => ih (i + 1) (nI i) (some w) (by omega) (by rw [if_pos z, e] at hc; exact hc) (Or.inr ⟨i, w, rfl, hw, rfl⟩)
      have rest : hasM (cJ y) (gMk (cN y)) q t w → (p = -1 → J E 3 m_Mo_sumAt 41 [some (.ref m), some (.int q), some (.int t), some (.int (nI i)), some (.int (nI (i + 1))), none] [] G1 Post) ∧ (¬ p = -1 → ∃ n25, IX p n25 (gN G1 (B 24)) ∧ (gA G1 (B 24) n25 ≤ wS w → J E 3 m_Mo_sumAt 41 [some (.ref m), some (.int q), some (.int t), some (.int p), some (.int (nI (i + 1))), none] [] G1 Post) ∧ (¬ gA G1 (B 24) n25 ≤ wS w → J E 3 m_Mo_sumAt 41 [some (.ref m), some (.int q), some (.int t), some (.int (nI i)), some (.int (nI (i + 1))), none] [] G1 Post)) := fun z => by
        refine ⟨fun e => new z ?_, fun e => ?_⟩
        · rcases hp with ⟨-, er⟩ | ⟨f, u, ef, hf, er⟩
          · rw [er]; rfl
          · rw [ef] at e
            have il := (List.getElem?_eq_some_iff.mp hf).1
            exact absurd e (nI_ne1 (by omega))
        · obtain ⟨f, u, ef, hf, er⟩ : ∃ f u, p = nI f ∧ W[f]? = some u ∧ r = some u := by
            rcases hp with ⟨e', -⟩ | hp
            · exact absurd e' e
            · exact hp
          have il := (List.getElem?_eq_some_iff.mp hf).1
          subst ef
          refine ⟨f, ix 24 (by decide) (by decide) f (by omega), ?_⟩
          rw [h2.rd 24 rfl, show T 24 f = wS u from (n2 f u hf).2.1]
          refine ⟨fun l => ih (i + 1) (nI f) (some u) (by omega) ?_ (Or.inr ⟨f, u, rfl, hf, rfl⟩), fun l => new z (by rw [er]; exact if_neg l)⟩
          rw [if_pos z, er, show bst (some u) w = some u from if_pos l] at hc
          exact hc
      refine wp_Mo_sumAt_41 m q t p (nI i) ⟨h2.tg, ?_⟩
      rw [e29, nI_leI (by omega) (by omega), nI_1 i, e1, e2, e4, e18]
      refine ⟨fun z => absurd z (by omega), fun _ => ⟨B 25, h2.rf 25 rfl, Or.inl (h2.at' 25 rfl), i, ix 25 (by decide) (by decide) i (by omega), ?_⟩⟩
      rw [show gA G1 (B 25) i = wE w from (h2.rd 25 rfl i).trans q3]
      have tl : opn (cJ y) (gMk (cN y)) w → (∃ b14, gR G1 663 m = some b14 ∧ (gT G1 b14 = 20 ∨ gT G1 b14 = 25) ∧ ∃ n18, IX (nI i) n18 (gN G1 b14) ∧ (¬ (gA G1 b14 n18) = q → J E 3 m_Mo_sumAt 41 [some (.ref m), some (.int q), some (.int t), some (.int p), some (.int (nI (i + 1))), none] [] G1 Post) ∧ ((gA G1 b14 n18) = q → ∃ b19, gR G1 664 m = some b19 ∧ (gT G1 b19 = 20 ∨ gT G1 b19 = 25) ∧ ∃ n23, IX (nI i) n23 (gN G1 b19) ∧ (t < (gA G1 b19 n23) → J E 3 m_Mo_sumAt 41 [some (.ref m), some (.int q), some (.int t), some (.int p), some (.int (nI (i + 1))), none] [] G1 Post) ∧ (¬ t < (gA G1 b19 n23) → (wE w ≤ t → J E 3 m_Mo_sumAt 41 [some (.ref m), some (.int q), some (.int t), some (.int p), some (.int (nI (i + 1))), none] [] G1 Post) ∧ (¬ wE w ≤ t → (p = (-1 : Int32) → J E 3 m_Mo_sumAt 41 [some (.ref m), some (.int q), some (.int t), some (.int (nI i)), some (.int (nI (i + 1))), none] [] G1 Post) ∧ (¬ p = (-1 : Int32) → ∃ n25, IX p n25 (gN G1 b19) ∧ ((gA G1 b19 n25) ≤ (gA G1 b19 n23) → J E 3 m_Mo_sumAt 41 [some (.ref m), some (.int q), some (.int t), some (.int p), some (.int (nI (i + 1))), none] [] G1 Post) ∧ (¬ (gA G1 b19 n25) ≤ (gA G1 b19 n23) → J E 3 m_Mo_sumAt 41 [some (.ref m), some (.int q), some (.int t), some (.int (nI i)), some (.int (nI (i + 1))), none] [] G1 Post)))))) := fun ho => by
        refine ⟨B 23, h2.rf 23 rfl, Or.inl (h2.at' 23 rfl), i, ix 23 (by decide) (by decide) i (by omega), ?_⟩
        rw [show gA G1 (B 23) i = wK w from (h2.rd 23 rfl i).trans q1]
        refine ⟨fun z => no (fun y => z y.1), fun z1 => ⟨B 24, h2.rf 24 rfl, Or.inl (h2.at' 24 rfl), i, ix 24 (by decide) (by decide) i (by omega), ?_⟩⟩
        rw [show gA G1 (B 24) i = wS w from (h2.rd 24 rfl i).trans q2]
        exact ⟨fun z => no (fun y => y.2.1 z), fun z2 => ⟨fun z => no (fun y => y.2.2.1 z), fun z3 => rest ⟨z1, z2, z3, ho⟩⟩⟩
      refine ⟨fun g => ⟨fun l => no (fun z => ?_), fun l => tl ?_⟩, fun g => ⟨fun l => no (fun z => ?_), fun l => tl ?_⟩⟩
      · have z2 := z.2.2.2
        unfold opn at z2
        rw [if_neg g] at z2
        exact z2 l
      · unfold opn; rw [if_neg g]; exact l
      · have z2 := z.2.2.2
        unfold opn at z2
        rw [if_pos g] at z2
        exact z2 l
      · unfold opn; rw [if_pos g]; exact l
  exact loop _ 0 (-1) none rfl rfl (Or.inl ⟨rfl, rfl⟩)
theorem c_pairsOf (h : MoS G m B F T) (ha : AB F T th y Jd JK) (hv : ∀ j ∈ Jd, j / 40 < 3 ∧ j % 40 < (sEv (cS y) (j / 40)).length)
    (k : Post (.inl (some (.int (jc2 (cJ y 4) (Jd.map (jv (cS y))) 0 (Jd.map (jv (cS y))))))) G) : Cl E 1 m_Mo_pairsOf [.ref m] G Post := by
  obtain ⟨x1, x2, x3, x4, x5, x6, x7, x8, x9, x10, x11, x12, x13, x14, x15, x16, x17, x18⟩ := ha
  obtain ⟨n0, n1, n2⟩ := id x9
  have e33 : gI G 673 m = nI Jd.length := (h.int 33 (by decide) (by decide)).trans n0
  have e5 : gI G 645 m = cJ y 4 := (h.int 5 (by decide) (by decide)).trans x2.2.2.2.2.1
  have evt : ∀ j ∈ Jd, T 9 j = (jv (cS y) j).2.1 ∧ T 10 j = (jv (cS y) j).2.2.1 := fun j hj => by
    obtain ⟨h3, h4⟩ := hv j hj
    obtain ⟨a1, a2, a3, a4, a5⟩ := x4 (j / 40) h3
    have e : (sEv (cS y) (j / 40))[j % 40]? = some ((sEv (cS y) (j / 40))[j % 40]) := List.getElem?_eq_getElem h4
    have hj2 : 40 * (j / 40) + j % 40 = j := Nat.div_add_mod j 40
    obtain ⟨b1, b2, b3⟩ := a5 (j % 40) _ e
    rw [hj2] at b1 b2
    have ej : (jv (cS y) j).2 = (sEv (cS y) (j / 40))[j % 40] := by
      unfold jv
      rw [List.getD_eq_getElem?_getD, e]; rfl
    rw [ej]
    exact ⟨b1, b2⟩
  have ij : ∀ a, a < 80 → IX (nI a) a (gN G (B 32)) := fun a ha => h.ix 32 rfl ha
  have loop1 : ∀ (i a : Nat), Jd[i]? = some a → ∀ (d q : Nat) (c : Int32), d + q = Jd.length → (∀ c', jc1 (cJ y 4) (jv (cS y) a) c ((Jd.map (jv (cS y))).drop q) = c' → J E 1 m_Mo_pairsOf 4 [some (.ref m), some (.int c'), some (.int (nI (i + 1))), none, none, none] [] G Post) → J E 1 m_Mo_pairsOf 14 [some (.ref m), some (.int c), some (.int (nI i)), some (.int (nI q)), none, none] [] G Post := by
    intro i a hi d
    have il := (List.getElem?_eq_some_iff.mp hi).1
    induction d with
    | zero =>
      intro q c hdq hk
      refine wp_Mo_pairsOf_14 m c (nI i) (nI q) ⟨h.tg, ?_⟩
      rw [e33, nI_leI (by omega) (by omega), nI_1 i]
      refine ⟨fun _ => hk c ?_, fun z => absurd (by omega) z⟩
      rw [List.drop_eq_nil_of_le (by rw [List.length_map]; omega)]; rfl
    | succ d ih =>
      intro q c hdq hk
      obtain ⟨b, hb⟩ : ∃ b, Jd[q]? = some b := ⟨_, List.getElem?_eq_getElem (by omega)⟩
      have hb' : (Jd.map (jv (cS y)))[q]? = some (jv (cS y) b) := by rw [List.getElem?_map, hb]; rfl
      rw [drop_at hb'] at hk
      have ma := List.mem_of_getElem? hi
      have mb := List.mem_of_getElem? hb
      obtain ⟨ja, ja80⟩ := n2 i a hi
      obtain ⟨jb, jb80⟩ := n2 q b hb
      have ia : ∀ j, 9 ≤ j → j ≤ 11 → ∀ z, z < 80 → IX (nI z) z (gN G (B j)) := fun j g1 g2 z hz => h.ix j (by unfold aK; simp; omega) (by unfold aN; rw [if_pos (by omega)]; omega)
      have no : ¬ jp (cJ y 4) (jv (cS y) a) (jv (cS y) b) → J E 1 m_Mo_pairsOf 14 [some (.ref m), some (.int (c + 0)), some (.int (nI i)), some (.int (nI (q + 1))), none, none] [] G Post := fun z => by
        rw [Int32.add_zero]
        refine ih (q + 1) c (by omega) (fun c' hc' => hk c' ?_)
        show jc1 _ _ (if jp _ _ _ then _ else _) _ = c'
        rw [if_neg z]; exact hc'
      have yes : jp (cJ y 4) (jv (cS y) a) (jv (cS y) b) → J E 1 m_Mo_pairsOf 14 [some (.ref m), some (.int (c + 1)), some (.int (nI i)), some (.int (nI (q + 1))), none, none] [] G Post := fun z => by
        refine ih (q + 1) (c + 1) (by omega) (fun c' hc' => hk c' ?_)
        show jc1 _ _ (if jp _ _ _ then _ else _) _ = c'
        rw [if_pos z]; exact hc'
      refine wp_Mo_pairsOf_14 m c (nI i) (nI q) ⟨h.tg, ?_⟩
      rw [e33, nI_leI (by omega) (by omega), nI_1 q, e5]
      refine ⟨fun z => absurd z (by omega), fun _ => ⟨B 9, h.rf 9 rfl, B 32, h.rf 32 rfl, Or.inl (h.at' 32 rfl), i, ij i (by omega), Or.inl (h.at' 9 rfl), ?_⟩⟩
      rw [show gA G (B 32) i = nI a from (h.rd 32 rfl i).trans ja]
      refine ⟨a, ia 9 (by decide) (by decide) a ja80, q, ij q (by omega), ?_⟩
      rw [show gA G (B 32) q = nI b from (h.rd 32 rfl q).trans jb]
      refine ⟨b, ia 9 (by decide) (by decide) b jb80, ?_⟩
      rw [show gA G (B 9) a = (jv (cS y) a).2.1 from (h.rd 9 rfl a).trans (evt a ma).1, show gA G (B 9) b = (jv (cS y) b).2.1 from (h.rd 9 rfl b).trans (evt b mb).1]
      refine ⟨fun z => no (fun y => absurd z (show ¬ (40 : Int32) ≤ nI a from nI_ge (b := 40) y.1 (by omega))), fun z => ?_⟩
      have a40 : a < 40 := Nat.lt_of_not_le (fun y => z (nI_le (a := 40) y (by omega)))
      refine ⟨fun z => no (fun y => y.2.1 (Nat.lt_of_not_le (fun x => nI_nlt (a := b) (b := 40) x (by omega) z))), fun z => ?_⟩
      have b40 : ¬ b < 40 := fun y => z (nI_lt (b := 40) y (by omega))
      refine ⟨B 10, h.rf 10 rfl, Or.inl (h.at' 10 rfl), a, ia 10 (by decide) (by decide) a ja80, b, ia 10 (by decide) (by decide) b jb80, ?_⟩
      rw [show gA G (B 10) a = (jv (cS y) a).2.2.1 from (h.rd 10 rfl a).trans (evt a ma).2, show gA G (B 10) b = (jv (cS y) b).2.2.1 from (h.rd 10 rfl b).trans (evt b mb).2]
      exact ⟨fun z => no (fun y => z y.2.2.1), fun z1 => ⟨fun z => no (fun y => y.2.2.2.1 z), fun z2 => ⟨fun z => no (fun y => y.2.2.2.2 z), fun z3 => yes ⟨a40, b40, z1, z2, z3⟩⟩⟩⟩
  have loop2 : ∀ (d i : Nat) (c : Int32), d + i = Jd.length → jc2 (cJ y 4) (Jd.map (jv (cS y))) c ((Jd.map (jv (cS y))).drop i) = jc2 (cJ y 4) (Jd.map (jv (cS y))) 0 (Jd.map (jv (cS y))) → J E 1 m_Mo_pairsOf 4 [some (.ref m), some (.int c), some (.int (nI i)), none, none, none] [] G Post := by
    intro d
    induction d with
    | zero =>
      intro i c hdi hc
      refine wp_Mo_pairsOf_4 m c (nI i) ⟨h.tg, ?_⟩
      rw [e33, nI_leI (by omega) (by omega)]
      refine ⟨fun _ => ?_, fun z => absurd (by omega) z⟩
      rw [List.drop_eq_nil_of_le (by rw [List.length_map]; omega)] at hc
      have hc : c = _ := hc
      rw [hc]; exact k
    | succ d ih =>
      intro i c hdi hc
      obtain ⟨a, hi⟩ : ∃ a, Jd[i]? = some a := ⟨_, List.getElem?_eq_getElem (by omega)⟩
      have hi' : (Jd.map (jv (cS y)))[i]? = some (jv (cS y) a) := by rw [List.getElem?_map, hi]; rfl
      rw [drop_at hi'] at hc
      refine wp_Mo_pairsOf_4 m c (nI i) ⟨h.tg, ?_⟩
      rw [e33, nI_leI (by omega) (by omega)]
      refine ⟨fun z => absurd z (by omega), fun _ => loop1 i a hi Jd.length 0 c rfl (fun c' hc' => ih (i + 1) c' (by omega) ?_)⟩
      rw [← hc', List.drop_zero]
      exact hc
  refine j_enter (L := [some (.ref m), none, none, none, none, none]) me_Mo_pairsOf (cat_c rfl cat_n) (Nat.le_of_ble_eq_true rfl) rfl (wp_Mo_pairsOf_0 m ?_)
  exact loop2 _ 0 0 rfl rfl
theorem r_pairs (h : MS G m B th y Jd JK) (hv : ∀ j ∈ Jd, j / 40 < 3 ∧ j % 40 < (sEv (cS y) (j / 40)).length) (k : KR G m B Post 0 (jc2 (cJ y 4) (Jd.map (jv (cS y))) 0 (Jd.map (jv (cS y)))) y Jd JK) : Cl E 2 m_Mo_pairs [.ref m] G Post := by
  refine j_enter (L := [some (.ref m)]) me_Mo_pairs (cat_c rfl cat_n) (Nat.le_of_ble_eq_true rfl) rfl (wp_Mo_pairs_0 m ⟨h.tg, ?_⟩)
  obtain ⟨F, T, h1, ha⟩ := h.code 0
  exact c_pairsOf h1 ha hv (wp_Mo_pairs_9 _ (k _ (h.code 0) MSt.rf.wI _ (fun _ => rfl)))
theorem r_pairsAnew (h : MS G m B th y Jd JK) (hv : ∀ j ∈ Jd, j / 40 < 3 ∧ j % 40 < (sEv (cS y) (j / 40)).length) (k : KR G m B Post 0 (jc2 (cJ y 4) (Jd.map (jv (cS y))) 0 (Jd.map (jv (cS y)))) y Jd JK) : Cl E 2 m_Mo_pairsAnew [.ref m] G Post := by
  refine j_enter (L := [some (.ref m)]) me_Mo_pairsAnew (cat_c rfl cat_n) (Nat.le_of_ble_eq_true rfl) rfl (wp_Mo_pairsAnew_0 m ⟨h.tg, ?_⟩)
  obtain ⟨F, T, h1, ha⟩ := h.code 0
  exact c_pairsOf h1 ha hv (wp_Mo_pairsAnew_9 _ (k _ (h.code 0) MSt.rf.wI _ (fun _ => rfl)))
end RFACE3
