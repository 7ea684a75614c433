section RFACE2
variable {E : EV} {G : GH} {Post : Res → GH → Prop} {m : Nat} {B : Nat → Nat} {th : Int32} {y : XS} {Jd : List Nat} {JK : Nat} {F : Nat → Int32} {T : Nat → Nat → Int32}
theorem r_told {q s w : Int32} (h : MoS G m B F T) (ha : AB F T th y Jd JK) (hc : kC (cK y) ≤ (kL (cK y)).length)
    (k : Post (.inl (some (.int (resN w (lastR q s none ((kL (cK y)).take (kC (cK y)))))))) G) : Cl E 1 m_Mo_told [.ref m, .int q, .int s, .int w] G Post := by
  obtain ⟨x1, x2, x3, x4, x5, x6, x7, x8, x9, x10, x11, x12, x13, x14, x15, x16, x17, x18⟩ := ha
  obtain ⟨n0, n1, n2⟩ := id x15
  generalize hL : kL (cK y) = L at *
  generalize hcc : kC (cK y) = c at *
  have e42 : gI G 682 m = nI c := (h.int 42 (by decide) (by decide)).trans x17
  have ix : ∀ j, 34 ≤ j → j ≤ 39 → ∀ a, a < 4000 → IX (nI a) a (gN G (B j)) := fun j h1 h2 a ha => h.ix j (by unfold aK; simp; omega) (by unfold aN; rw [if_neg (by omega), if_neg (by omega), if_neg (by omega), if_neg (by omega), if_neg (by omega), if_pos (by omega)]; exact ha)
  -- r is the last one so far
  have loop : ∀ (d i : Nat) (p : Int32) (r : Option WT), d + i = c → lastR q s r ((L.take c).drop i) = lastR q s none (L.take c) → ((p = -1 ∧ ∀ u, r = some u → wO u = 0) ∨ ∃ f u, p = nI f ∧ f < c ∧ L[f]? = some u ∧ r = some u ∧ ¬ wO u = 0) → J E 1 m_Mo_told 6 [some (.ref m), some (.int q), some (.int s), some (.int w), some (.int p), some (.int (nI i)), none] [] G Post := by
    intro d
    induction d with
    | zero =>
      intro i p r hdi hl hp
      refine wp_Mo_told_6 m q s w p (nI i) ⟨h.tg, ?_⟩
      rw [e42, nI_leI (by omega) (by omega)]
      refine ⟨fun _ => ?_, fun z => absurd (by omega) z⟩
      rw [List.drop_eq_nil_of_le (by rw [List.length_take]; omega)] at hl
      have hl : r = _ := hl
      rw [← hl] at k
      rcases hp with ⟨e, hp⟩ | ⟨f, u, e, hfl, hf, hr, hO⟩
      · refine ⟨fun z => absurd e z, fun _ => ?_⟩
        cases r with
        | none => exact k
        | some u =>
          have k : Post (.inl (some (.int (if wO u = 0 then -1000000 else numW w u)))) G := k
          rw [if_pos (hp u rfl)] at k
          exact k
      · subst e
        obtain ⟨q1, q2, q3, q4, q5, q6⟩ := n2 f u hf
        rw [hr] at k
        have k : Post (.inl (some (.int (if wO u = 0 then -1000000 else numW w u)))) G := k
        rw [if_neg hO] at k
        unfold numW at k
        refine ⟨fun _ => ⟨fun g => ⟨fun g2 => ⟨B 36, h.rf 36 rfl, Or.inl (h.at' 36 rfl), f, ix 36 (by decide) (by decide) f (by omega), ?_⟩, fun g2 => ⟨B 38, h.rf 38 rfl, Or.inl (h.at' 38 rfl), f, ix 38 (by decide) (by decide) f (by omega), ?_⟩⟩, fun g => ⟨B 37, h.rf 37 rfl, Or.inl (h.at' 37 rfl), f, ix 37 (by decide) (by decide) f (by omega), ?_⟩⟩, fun z => absurd z (nI_ne1 (by omega))⟩
        · rw [if_neg g, if_neg g2] at k
          rw [h.rd 36 rfl, q3]; exact k
        · rw [if_neg g, if_pos g2] at k
          rw [h.rd 38 rfl, q5]; exact k
        · rw [if_pos g] at k
          rw [h.rd 37 rfl, q4]; exact k
    | succ d ih =>
      intro i p r hdi hl hp
      obtain ⟨u, hu⟩ : ∃ u, L[i]? = some u := ⟨_, List.getElem?_eq_getElem (by omega)⟩
      obtain ⟨q1, q2, q3, q4, q5, q6⟩ := n2 i u hu
      have hd : (L.take c).drop i = u :: (L.take c).drop (i + 1) := by
        have h1 : (L.take c)[i]? = some u := by rw [List.getElem?_take, if_pos (by omega)]; exact hu
        have il := (List.getElem?_eq_some_iff.mp h1)
        rw [List.drop_eq_getElem_cons il.1, il.2]
      rw [hd] at hl
      have hl : lastR q s (if isW q s u then some u else r) ((L.take c).drop (i + 1)) = _ := hl
      refine wp_Mo_told_6 m q s w p (nI i) ⟨h.tg, ?_⟩
      rw [e42, nI_leI (by omega) (by omega), nI_1 i]
      have no : ¬ isW q s u → J E 1 m_Mo_told 6 [some (.ref m), some (.int q), some (.int s), some (.int w), some (.int p), some (.int (nI (i + 1))), none] [] G Post := fun hn => ih (i + 1) p r (by omega) (by rw [if_neg hn] at hl; exact hl) hp
      refine ⟨fun z => absurd z (by omega), fun _ => ⟨B 34, h.rf 34 rfl, Or.inl (h.at' 34 rfl), i, ix 34 (by decide) (by decide) i (by omega), ?_⟩⟩
      rw [h.rd 34 rfl, q1]
      refine ⟨fun z => no (fun y => z y.1), fun z1 => ⟨B 35, h.rf 35 rfl, Or.inl (h.at' 35 rfl), i, ix 35 (by decide) (by decide) i (by omega), ?_⟩⟩
      rw [h.rd 35 rfl, q2]
      refine ⟨fun z => no (fun y => z y.2), fun z2 => ⟨B 39, h.rf 39 rfl, h.at' 39 rfl, i, ix 39 (by decide) (by decide) i (by omega), ?_⟩⟩
      rw [h.rd 39 rfl, q6]
      rw [if_pos ⟨z1, z2⟩] at hl
      by_cases cO : wO u = 0
      · rw [if_pos cO]
        exact ⟨fun z => absurd z (by decide +kernel), fun _ => ih (i + 1) (-1) (some u) (by omega) hl (Or.inl ⟨rfl, fun v hv => by rw [← Option.some.inj hv]; exact cO⟩)⟩
      · rw [if_neg cO]
        exact ⟨fun _ => ih (i + 1) (nI i) (some u) (by omega) hl (Or.inr ⟨i, u, rfl, by omega, hu, rfl, cO⟩), fun z => absurd rfl z⟩
  refine j_enter (L := [some (.ref m), some (.int q), some (.int s), some (.int w), none, none, none]) me_Mo_told (cat_c rfl (cat_c rfl (cat_c rfl (cat_c rfl cat_n)))) (Nat.le_of_ble_eq_true rfl) rfl (wp_Mo_told_0 m q s w ?_)
  exact loop c 0 (-1) none rfl rfl (Or.inl ⟨rfl, fun u hu => by cases hu⟩)
theorem lt56 {q : Int32} : (5 : Int32) < q ↔ 6 ≤ q := by
  rw [Int32.lt_iff_toInt_lt, Int32.le_iff_toInt_le]
  have e2 : (5 : Int32).toInt = 5 := by decide +kernel
  have e3 : (6 : Int32).toInt = 6 := by decide +kernel
  rw [e2, e3]; omega
theorem nle_lt {a b : Int32} : ¬ a ≤ b ↔ b < a := Int32.not_le
/-- the answers of result, as a code and a number -/
theorem fRes_1 {a b : Int32} {q s w : Int32} (bad1 : a = 0) : True := trivial
def cRes (q s w a : Int32) : Nat × Int32 := if q < 0 then (1, 0) else if 6 ≤ q then (1, 0) else if s < 0 then (2, 0) else if 999 < s then (2, 0) else if w < 0 then (2, 0) else if w ≤ 2 then (0, a) else (2, 0)
theorem r_result {q s w : Int32} (h : MS G m B th y Jd JK) (hc : kC (cK y) ≤ (kL (cK y)).length) (k : KR G m B Post (cRes q s w (resN w (lastR q s none ((kL (cK y)).take (kC (cK y)))))).1 (cRes q s w (resN w (lastR q s none ((kL (cK y)).take (kC (cK y)))))).2 y Jd JK) : Cl E 3 m_Mo_result [.ref m, .int q, .int s, .int w] G Post := by
  have h0 := h
  unfold cRes at k
  refine j_enter (L := [some (.ref m), some (.int q), some (.int s), some (.int w)]) me_Mo_result (cat_c rfl (cat_c rfl (cat_c rfl (cat_c rfl cat_n)))) (Nat.le_of_ble_eq_true rfl) rfl (wp_Mo_result_0 m q s w ⟨fun c1 => ⟨h0.tg, ?_⟩, fun c1 => ⟨fun c2 => ⟨h0.tg, ?_⟩, fun c2 => ⟨h0.tg, fun c3 => ?_, fun c3 => ⟨fun c4 => ?_, fun c4 => ⟨fun c5 => ?_, fun c5 => ⟨fun c6 => ?_, fun c6 => ?_⟩⟩⟩⟩⟩⟩)
  · rw [if_pos c1] at k; exact KR.exc (n := 0) h0 k
  · rw [if_neg c1, if_pos (lt56.mp c2)] at k; exact KR.exc (n := 0) h0 k
  · rw [if_neg c1, if_neg (fun z => c2 (lt56.mpr z)), if_pos c3] at k; exact KR.exc (n := 1) h0 k
  · rw [if_neg c1, if_neg (fun z => c2 (lt56.mpr z)), if_neg c3, if_pos c4] at k; exact KR.exc (n := 1) h0 k
  · rw [if_neg c1, if_neg (fun z => c2 (lt56.mpr z)), if_neg c3, if_neg c4, if_pos c5] at k; exact KR.exc (n := 1) h0 k
  · rw [if_neg c1, if_neg (fun z => c2 (lt56.mpr z)), if_neg c3, if_neg c4, if_neg c5, if_neg (Int32.not_le.mpr c6)] at k; exact KR.exc (n := 1) h0 k
  · rw [if_neg c1, if_neg (fun z => c2 (lt56.mpr z)), if_neg c3, if_neg c4, if_neg c5, if_pos (Int32.not_lt.mp c6)] at k
    obtain ⟨F, T, h1, ha⟩ := h0.code 0
    exact r_told h1 ha hc (wp_Mo_result_39 _ (k _ (h0.code 0) MSt.rf.wI _ (fun _ => rfl)))
theorem r_resultAnew {q s w : Int32} (h : MS G m B th y Jd JK) (hc : kC (cK y) ≤ (kL (cK y)).length) (k : KR G m B Post (cRes q s w (resN w (lastR q s none ((kL (cK y)).take (kC (cK y)))))).1 (cRes q s w (resN w (lastR q s none ((kL (cK y)).take (kC (cK y)))))).2 y Jd JK) : Cl E 3 m_Mo_resultAnew [.ref m, .int q, .int s, .int w] G Post := by
  have h0 := h
  unfold cRes at k
  refine j_enter (L := [some (.ref m), some (.int q), some (.int s), some (.int w)]) me_Mo_resultAnew (cat_c rfl (cat_c rfl (cat_c rfl (cat_c rfl cat_n)))) (Nat.le_of_ble_eq_true rfl) rfl (wp_Mo_resultAnew_0 m q s w ⟨fun c1 => ⟨h0.tg, ?_⟩, fun c1 => ⟨fun c2 => ⟨h0.tg, ?_⟩, fun c2 => ⟨h0.tg, fun c3 => ?_, fun c3 => ⟨fun c4 => ?_, fun c4 => ⟨fun c5 => ?_, fun c5 => ⟨fun c6 => ?_, fun c6 => ?_⟩⟩⟩⟩⟩⟩)
  · rw [if_pos c1] at k; exact KR.exc (n := 0) h0 k
  · rw [if_neg c1, if_pos (lt56.mp c2)] at k; exact KR.exc (n := 0) h0 k
  · rw [if_neg c1, if_neg (fun z => c2 (lt56.mpr z)), if_pos c3] at k; exact KR.exc (n := 1) h0 k
  · rw [if_neg c1, if_neg (fun z => c2 (lt56.mpr z)), if_neg c3, if_pos c4] at k; exact KR.exc (n := 1) h0 k
  · rw [if_neg c1, if_neg (fun z => c2 (lt56.mpr z)), if_neg c3, if_neg c4, if_pos c5] at k; exact KR.exc (n := 1) h0 k
  · rw [if_neg c1, if_neg (fun z => c2 (lt56.mpr z)), if_neg c3, if_neg c4, if_neg c5, if_neg (Int32.not_le.mpr c6)] at k; exact KR.exc (n := 1) h0 k
  · rw [if_neg c1, if_neg (fun z => c2 (lt56.mpr z)), if_neg c3, if_neg c4, if_neg c5, if_pos (Int32.not_lt.mp c6)] at k
    obtain ⟨F, T, h1, ha⟩ := h0.code 0
    exact r_told h1 ha hc (wp_Mo_resultAnew_39 _ (k _ (h0.code 0) MSt.rf.wI _ (fun _ => rfl)))
theorem r_open {q : Int32} (h : MS G m B th y Jd JK) (hw : tW (cT y) = 1 ∨ tW (cT y) = 2 ∨ tW (cT y) = 3) (k : KR G m B Post (fOpen y q).1 (fOpen y q).2.1 y Jd JK) : Cl E 2 m_Mo_open [.ref m, .int q] G Post := by
  have h0 := h
  obtain ⟨F, T, h1, ha⟩ := h
  obtain ⟨x1, x2, x3, x4, x5, x6, x7, x8, x9, x10, x11, x12, x13, x14, x15, x16, x17, x18⟩ := ha
  obtain ⟨n0, n1, n2⟩ := id x8
  unfold fOpen at k
  have ew : ¬ tW (cT y) - 1 < q ↔ q < tW (cT y) := by
    rw [Int32.not_lt]
    rcases hw with e | e | e <;> rw [e]
    · rw [show (1 : Int32) - 1 = 0 by decide +kernel, Int32.le_iff_toInt_le, Int32.lt_iff_toInt_lt, show (0 : Int32).toInt = 0 by decide +kernel, show (1 : Int32).toInt = 1 by decide +kernel]; omega
    · rw [show (2 : Int32) - 1 = 1 by decide +kernel, Int32.le_iff_toInt_le, Int32.lt_iff_toInt_lt, show (1 : Int32).toInt = 1 by decide +kernel, show (2 : Int32).toInt = 2 by decide +kernel]; omega
    · rw [show (3 : Int32) - 1 = 2 by decide +kernel, Int32.le_iff_toInt_le, Int32.lt_iff_toInt_lt, show (2 : Int32).toInt = 2 by decide +kernel, show (3 : Int32).toInt = 3 by decide +kernel]; omega
  refine j_enter (L := [some (.ref m), some (.int q), none, none]) me_Mo_open (cat_c rfl (cat_c rfl cat_n)) (Nat.le_of_ble_eq_true rfl) rfl (wp_Mo_open_0 m q ⟨h1.tg, fun c1 => ?_, fun c1 => ?_⟩)
  · rw [if_pos c1] at k; exact KR.exc (n := 0) h0 k
  rw [show gI G 647 m = tW (cT y) from (h1.int 7 (by decide) (by decide)).trans x3.1]
  rw [if_neg c1] at k
  refine ⟨fun c2 => ?_, fun c2 => ?_⟩
  · rw [if_neg (fun z => (ew.mpr z) c2)] at k; exact KR.exc (n := 0) h0 k
  rw [if_pos (ew.mp c2)] at k
  have h2 := h1.wI 0 0
  have hk := k _ (h0.code 0) MSt.rf.wI _ (fun _ => rfl)
  have e29 : gI (sI G 640 m 0) 669 m = nI (gWi (cN y)).length := (h2.int 29 (by decide) (by decide)).trans n0
  have e1 : gI (sI G 640 m 0) 641 m = cJ y 0 := (h2.int 1 (by decide) (by decide)).trans x2.1
  have e2 : gI (sI G 640 m 0) 642 m = cJ y 1 := (h2.int 2 (by decide) (by decide)).trans x2.2.1
  have e4 : gI (sI G 640 m 0) 644 m = cJ y 3 := (h2.int 4 (by decide) (by decide)).trans x2.2.2.2.1
  have e7 : gI (sI G 640 m 0) 647 m = tW (cT y) := (h2.int 7 (by decide) (by decide)).trans x3.1
  have e18 : gI (sI G 640 m 0) 658 m = gMk (cN y) := (h2.int 18 (by decide) (by decide)).trans x6
  have hh := h2
  generalize sI G 640 m 0 = G1 at *
  have loop : ∀ (d i : Nat) (c : Int32), d + i = (gWi (cN y)).length → cntO (cJ y) (gMk (cN y)) (tW (cT y)) q c ((gWi (cN y)).drop i) = cntO (cJ y) (gMk (cN y)) (tW (cT y)) q 0 (gWi (cN y)) → J E 2 m_Mo_open 32 [some (.ref m), some (.int q), some (.int c), some (.int (nI i))] [] G1 Post := by
    intro d
    induction d with
    | zero =>
      intro i c hdi hc
      refine wp_Mo_open_32 m q c (nI i) ⟨h2.tg, ?_⟩
      rw [e29, nI_leI (by omega) (by omega)]
      refine ⟨fun _ => ?_, fun z => absurd (by omega) z⟩
      rw [List.drop_eq_nil_of_le (by omega)] at hc
      have hc : c = _ := hc
      rw [hc]; exact hk
    | succ d ih =>
      intro i c hdi hc
      obtain ⟨w, hw⟩ : ∃ w, (gWi (cN y))[i]? = some w := ⟨_, List.getElem?_eq_getElem (by omega)⟩
      obtain ⟨q1, q2, q3, q4, q5, q6, q7⟩ := n2 i w hw
      have hd : (gWi (cN y)).drop i = w :: (gWi (cN y)).drop (i + 1) := by
        have il := List.getElem?_eq_some_iff.mp hw
        rw [List.drop_eq_getElem_cons il.1, il.2]
      rw [hd] at hc
      have hc : cntO (cJ y) (gMk (cN y)) (tW (cT y)) q (if wK w * tW (cT y) / 6 = q ∧ opn (cJ y) (gMk (cN y)) w then c + 1 else c) ((gWi (cN y)).drop (i + 1)) = _ := hc
      have ix : ∀ j, 23 ≤ j → j ≤ 28 → IX (nI i) i (gN G1 (B j)) := fun j g1 g2 => h2.ix j (by unfold aK; simp; omega) (by unfold aN; rw [if_neg (by omega), if_neg (by omega), if_pos (by omega)]; omega)
      have no : ¬ (wK w * tW (cT y) / 6 = q ∧ opn (cJ y) (gMk (cN y)) w) → J E 2 m_Mo_open 32 [some (.ref m), some (.int q), some (.int (c + 0)), some (.int (nI (i + 1)))] [] G1 Post := fun z => by
        rw [Int32.add_zero]
        exact ih (i + 1) c (by omega) (by rw [if_neg z] at hc; exact hc)
      have yes : (wK w * tW (cT y) / 6 = q ∧ opn (cJ y) (gMk (cN y)) w) → J E 2 m_Mo_open 32 [some (.ref m), some (.int q), some (.int (c + 1)), some (.int (nI (i + 1)))] [] G1 Post := fun z => ih (i + 1) (c + 1) (by omega) (by rw [if_pos z] at hc; exact hc)
      refine wp_Mo_open_32 m q c (nI i) ⟨h2.tg, ?_⟩
      rw [e29, nI_leI (by omega) (by omega), nI_1 i, e1, e2, e4, e7, e18]
      refine ⟨fun z => absurd z (by omega), fun _ => ⟨B 25, h2.rf 25 rfl, Or.inl (h2.at' 25 rfl), i, ix 25 (by decide) (by decide), ?_⟩⟩
      rw [show gA G1 (B 25) i = wE w from (h2.rd 25 rfl i).trans q3]
      refine ⟨fun g => ⟨fun l => no (fun z => ?_), fun l => ⟨B 23, h2.rf 23 rfl, Or.inl (h2.at' 23 rfl), i, ix 23 (by decide) (by decide), ?_⟩⟩, fun g => ⟨fun l => no (fun z => ?_), fun l => ⟨B 23, h2.rf 23 rfl, Or.inl (h2.at' 23 rfl), i, ix 23 (by decide) (by decide), ?_⟩⟩⟩
      · have z2 := z.2
        unfold opn at z2
        rw [if_neg g] at z2
        exact z2 l
      · rw [show gA G1 (B 23) i = wK w from (h2.rd 23 rfl i).trans q1]
        refine ⟨fun e => no (fun z => e z.1), fun e => yes ⟨e, ?_⟩⟩
        unfold opn
        rw [if_neg g]; exact l
      · have z2 := z.2
        unfold opn at z2
        rw [if_pos g] at z2
        exact z2 l
      · rw [show gA G1 (B 23) i = wK w from (h2.rd 23 rfl i).trans q1]
        refine ⟨fun e => no (fun z => e z.1), fun e => yes ⟨e, ?_⟩⟩
        unfold opn
        rw [if_pos g]; exact l
  exact loop _ 0 0 rfl rfl
end RFACE2
