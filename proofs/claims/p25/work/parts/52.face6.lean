section FACE6
variable {E : EV} {G : GH} {Post : Res → GH → Prop} {o A : Nat → Nat} {x : XS} {p : Nat} {nm : List String}
/-- a window is open -/
abbrev opn (jb : Nat → Int32) (mk : Int32) (w : WT) : Prop := ¬ wE w + jb 3 + (if jb 0 = 2 then jb 1 else 0) ≤ mk
def cntO (jb : Nat → Int32) (mk wk q : Int32) : Int32 → List WT → Int32
  | c, [] => c
  | c, w :: L => cntO jb mk wk q (if wK w * wk / 6 = q ∧ opn jb mk w then c + 1 else c) L
def fOpen (x : XS) (q : Int32) : OU := if q < 0 then (1, 0, x) else if q < tW (cT x) then (0, cntO (cJ x) (gMk (cN x)) (tW (cT x)) q 0 (gWi (cN x)), x) else (1, 0, x)
theorem c_open {q : Int32} (hA : InjA A) (h : StS E G o A x p) (k : KF E A G o p Post [xIO] (fOpen x q)) : Cl E 4 m_St_open [.ref (A 0), .int q] G Post := by
  have h0 := h
  obtain ⟨ea, p1, p2, p3, p4, p5, hO, hp⟩ := h
  obtain ⟨hw, hR, hJ, hT, hB, hSo, hPg, hPs, hHi, hSi⟩ := id hO
  obtain ⟨a1, a2, a3, a4, a5, a6, rows, spare, a7, a8, a9⟩ := id hPg
  obtain ⟨w1, w2, w3, w4, w5, w6, cr, cp, w7, w8, w9⟩ := id a7
  have hle := w7.le
  unfold fOpen at k
  refine j_enter (L := [some (.ref (A 0)), some (.int q), none, none, none]) me_St_open (cat_c rfl (cat_c rfl cat_n)) (Nat.le_of_ble_eq_true rfl) rfl (wp_St_open_0 (A 0) q ⟨fun c1 => ?_, fun c1 => ⟨hR.1, ?_⟩⟩)
  · rw [if_pos c1] at k
    exact k.exc hA h0 rfl
  rw [if_neg c1] at k
  rw [hT.2.2.2]
  refine ⟨fun c2 => ?_, fun c2 => ?_⟩
  · rw [if_pos c2] at k
    have loop : ∀ (m i : Nat) (c : Int32), m + i = rows.length → cntO (cJ x) (gMk (cN x)) (tW (cT x)) q c ((rows.drop i).map (rW G)) = cntO (cJ x) (gMk (cN x)) (tW (cT x)) q 0 (gWi (cN x)) → J E 4 m_St_open 26 [some (.ref (A 0)), some (.int q), some (.int c), some (.int (nI i)), none] [] G Post := by
      intro m
      induction m with
      | zero =>
        intro i c hmi hc
        refine wp_St_open_26 (A 0) q c (nI i) ⟨hR.1, A 9, hR.2.2.2.2.2.2.1, a1.1, A 13, a1.2.2.2.2.2.1, w1, A 14, w3, w7.tg, ?_⟩
        rw [w7.sz, nI_leI (by omega) (by omega)]
        refine ⟨fun _ => ?_, fun z => absurd (by omega) z⟩
        rw [List.drop_eq_nil_of_le (by omega)] at hc
        have hc : c = _ := hc
        rw [hc]
        exact k.ask hA h0
      | succ m ih =>
        intro i c hmi hc
        obtain ⟨b, hb⟩ : ∃ b, rows[i]? = some b := ⟨_, List.getElem?_eq_getElem (by omega)⟩
        have tb := (w6.2 b (List.mem_append_left _ (List.mem_of_getElem? hb))).1
        rw [drop_cons hb] at hc
        have hc : cntO (cJ x) (gMk (cN x)) (tW (cT x)) q (if wK (rW G b) * tW (cT x) / 6 = q ∧ opn (cJ x) (gMk (cN x)) (rW G b) then c + 1 else c) ((rows.drop (i + 1)).map (rW G)) = _ := hc
        refine wp_St_open_26 (A 0) q c (nI i) ⟨hR.1, A 9, hR.2.2.2.2.2.2.1, a1.1, A 13, a1.2.2.2.2.2.1, w1, A 14, w3, w7.tg, ?_⟩
        rw [w7.sz, nI_leI (by omega) (by omega), hT.2.2.2, a3, nI_1]
        refine ⟨fun z => absurd z (by omega), fun _ => ⟨b, w7.lg hb, tb, fun z => ih (i + 1) c (by omega) ?_, fun z => ⟨A 1, hR.2.2.2.2.1, hR.2.2.1, ?_⟩⟩⟩
        · rw [if_neg (fun y => z y.1)] at hc; exact hc
        · rw [show gI G 192 (A 1) = cJ x 0 from hJ 0 (by omega), show gI G 195 (A 1) = cJ x 3 from hJ 3 (by omega), show gI G 193 (A 1) = cJ x 1 from hJ 1 (by omega)]
          have no : ¬ opn (cJ x) (gMk (cN x)) (rW G b) → J E 4 m_St_open 26 [some (.ref (A 0)), some (.int q), some (.int c), some (.int (nI (i + 1))), none] [] G Post := fun y => ih (i + 1) c (by omega) (by rw [if_neg (fun z => y z.2)] at hc; exact hc)
          have yes : opn (cJ x) (gMk (cN x)) (rW G b) → J E 4 m_St_open 26 [some (.ref (A 0)), some (.int q), some (.int (c + 1)), some (.int (nI (i + 1))), none] [] G Post := fun y => ih (i + 1) (c + 1) (by omega) (by rw [if_pos ⟨z, y⟩] at hc; exact hc)
          refine ⟨fun g => ⟨fun l => no (fun y => ?_), fun l => yes (fun y => ?_)⟩, fun g => ⟨fun l => no (fun y => ?_), fun l => yes (fun y => ?_)⟩⟩
          · unfold opn at y; rw [if_neg g] at y; exact y l
          · rw [if_neg g] at y; exact l y
          · unfold opn at y; rw [if_pos g] at y; exact y l
          · rw [if_pos g] at y; exact l y
    exact loop rows.length 0 0 rfl (by rw [List.drop_zero]; rw [show rows.map (rW G) = gWi (cN x) from a8])
  · rw [if_neg c2] at k
    exact k.exc hA h0 rfl
abbrev hasM (jb : Nat → Int32) (mk key t : Int32) (w : WT) : Prop := wK w = key ∧ ¬ t < wS w ∧ ¬ wE w ≤ t ∧ opn jb mk w
def bst (acc : Option WT) (w : WT) : Option WT := match acc with
  | none => some w
  | some b => if wS b ≤ wS w then some b else some w
/-- the first window of a key that has a moment -/
def bestS (jb : Nat → Int32) (mk key t : Int32) : Option WT → List WT → Option WT
  | acc, [] => acc
  | acc, w :: L => bestS jb mk key t (if hasM jb mk key t w then bst acc w else acc) L
def sumN (r : Option WT) : Int32 := match r with
  | none => -1000000
  | some w => wM w
def fSumAt (x : XS) (q t : Int32) : OU := if q < 0 then (1, 0, x) else if 6 ≤ q then (1, 0, x) else if t < 0 then (2, 0, x) else if t ≤ 1200 then (0, sumN (bestS (cJ x) (gMk (cN x)) q t none (gWi (cN x))), x) else (2, 0, x)
def numW (what : Int32) (w : WT) : Int32 := if what = 0 then wC w else if what = 1 then wM w else wE w
def resN (what : Int32) (r : Option WT) : Int32 := match r with
  | none => -1000000
  | some w => if wO w = 0 then -1000000 else numW what w
def fResult (x : XS) (q s w : Int32) : OU := if q < 0 then (1, 0, x) else if 6 ≤ q then (1, 0, x) else if s < 0 then (2, 0, x) else if 999 < s then (2, 0, x) else if w < 0 then (2, 0, x) else if w ≤ 2 then (0, resN w (lastR q s none ((kL (cK x)).take (kC (cK x)))), x) else (2, 0, x)
theorem c_result {q s w : Int32} (hA : InjA A) (h : StS E G o A x p) (hc : kC (cK x) ≤ (kL (cK x)).length) (k : KF E A G o p Post [xIO, xIA] (fResult x q s w)) : Cl E 5 m_St_result [.ref (A 0), .int q, .int s, .int w] G Post := by
  have h0 := h
  obtain ⟨ea, p1, p2, p3, p4, p5, hO, hp⟩ := h
  obtain ⟨hw, hR, hJ, hT, hB, hSo, hPg, hPs, hHi, hSi⟩ := id hO
  obtain ⟨rows, d1, d2, d3⟩ := id hSi
  unfold fResult at k
  refine j_enter (L := [some (.ref (A 0)), some (.int q), some (.int s), some (.int w), none]) me_St_result (cat_c rfl (cat_c rfl (cat_c rfl (cat_c rfl cat_n)))) (Nat.le_of_ble_eq_true rfl) rfl (wp_St_result_0 (A 0) q s w ⟨fun c1 => ?_, fun c1 => ⟨fun c2 => ?_, fun c2 => ⟨fun c3 => ?_, fun c3 => ⟨fun c4 => ?_, fun c4 => ⟨fun c5 => ?_, fun c5 => ⟨fun c6 => ?_, fun c6 => ?_⟩⟩⟩⟩⟩⟩)
  · rw [if_pos c1] at k; exact k.exc hA h0 rfl
  · rw [if_neg c1, if_pos c2] at k; exact k.exc hA h0 rfl
  · rw [if_neg c1, if_neg c2, if_pos c3] at k; exact k.exc hA h0 rfl
  · rw [if_neg c1, if_neg c2, if_neg c3, if_pos c4] at k; exact k.exc hA h0 rfl
  · rw [if_neg c1, if_neg c2, if_neg c3, if_neg c4, if_pos c5] at k; exact k.exc hA h0 rfl
  · rw [if_neg c1, if_neg c2, if_neg c3, if_neg c4, if_neg c5, if_pos c6] at k
    have hk := k.ask hA h0
    refine ⟨hR.1, A 26, hR.2.2.2.2.2.2.2.2.2.1, d1.1, c_lastCommitted d1 hc (by omega) (fun r hr tr => wp_St_result_15 w r ⟨fun z => ?_, fun b hb => ⟨tr b hb, ?_⟩⟩)⟩
    all_goals
      have e : recs G rows (kC (cK x)) = (kL (cK x)).take (kC (cK x)) := by
        have e2 : recs G rows (kL (cK x)).length = kL (cK x) := d2
        rw [← e2]
        unfold recs
        rw [List.map_take, List.map_take, List.take_take, Nat.min_eq_left hc]
      rw [e] at hr
      rw [← hr] at hk
    · rw [z] at hk; exact hk
    · rw [hb] at hk
      have hk : Post (.inl (some (.int (if wO (rW G b) = 0 then -1000000 else numW w (rW G b))))) G := hk
      refine ⟨fun f => ?_, fun f => ?_⟩
      · have f' : ¬ wO (rW G b) = 0 := f
        rw [if_neg f'] at hk
        unfold numW at hk
        refine ⟨fun g => ⟨fun g2 => ?_, fun g2 => ?_⟩, fun g => ?_⟩
        · rw [if_neg g, if_neg g2] at hk; exact hk
        · rw [if_neg g, if_pos g2] at hk; exact hk
        · rw [if_pos g] at hk; exact hk
      · have f' : wO (rW G b) = 0 := f
        rw [if_pos f'] at hk; exact hk
  · rw [if_neg c1, if_neg c2, if_neg c3, if_neg c4, if_neg c5, if_neg c6] at k; exact k.exc hA h0 rfl
/-- the result, found anew -/
def endA (jb : Nat → Int32) (H : List ET) (q s : Int32) (cl : Nat) : Int32 := if jb 0 = 2 then endG (jb 0) (jb 1) (jb 3) q s H cl else if laS (jb 2) s = s then s + jb 1 else -1
def anwG (jb : Nat → Int32) (H : List ET) (q s w e : Int32) : Int32 := if wC (gat (jb 0) (jb 1) (jb 3) q e (q, s, e, 0, 0, 0) H) = 0 then -1000000 else numW w (gat (jb 0) (jb 1) (jb 3) q e (q, s, e, 0, 0, 0) H)
def anw (jb : Nat → Int32) (H : List ET) (cl : Nat) (cw q s w : Int32) : Int32 := if endA jb H q s cl = -1 then -1000000 else if endA jb H q s cl ≤ cw then anwG jb H q s w (endA jb H q s cl) else -1000000
def comH (x : XS) : List ET := ((hL (cH x)).take (hC (cH x))).map (hE (cS x))
def fResultAnew (x : XS) (q s w : Int32) : OU := if q < 0 then (1, 0, x) else if 6 ≤ q then (1, 0, x) else if s < 0 then (2, 0, x) else if 999 < s then (2, 0, x) else if w < 0 then (2, 0, x) else if w ≤ 2 then (0, anw (cJ x) (comH x) (hC (cH x)) (hW (cH x)) q s w, x) else (2, 0, x)
theorem c_resultAnew {q s w : Int32} (hA : InjA A) (h : StS E G o A x p) (hc : hC (cH x) ≤ (hL (cH x)).length) (k : KF E A G o p Post [xIO, xIA] (fResultAnew x q s w)) : Cl E 7 m_St_resultAnew [.ref (A 0), .int q, .int s, .int w] G Post := by
  have h0 := h
  obtain ⟨ea, p1, p2, p3, p4, p5, hO, hp⟩ := h
  obtain ⟨hw, hR, hJ, hT, hB, hSo, hPg, hPs, hHi, hSi⟩ := id hO
  unfold fResultAnew at k
  have hcev : cev G ((hL (cH x)).map (aOf ea)) (hC (cH x)) = comH x := by
    unfold cev comH
    rw [List.map_take, hist_map hSo hHi, List.map_take]
  have hcl : hC (cH x) ≤ ((hL (cH x)).map (aOf ea)).length := by rw [List.length_map]; exact hc
  have j0 : gI G 192 (A 1) = cJ x 0 := hJ 0 (by omega)
  have j1 : gI G 193 (A 1) = cJ x 1 := hJ 1 (by omega)
  have j2 : gI G 194 (A 1) = cJ x 2 := hJ 2 (by omega)
  have j3 : gI G 195 (A 1) = cJ x 3 := hJ 3 (by omega)
  have ew : gI G 130 (A 23) = hW (cH x) := hHi.1.2.2.2.2.1
  refine j_enter (L := [some (.ref (A 0)), some (.int q), some (.int s), some (.int w), none, none]) me_St_resultAnew (cat_c rfl (cat_c rfl (cat_c rfl (cat_c rfl cat_n)))) (Nat.le_of_ble_eq_true rfl) rfl (wp_St_resultAnew_0 (A 0) q s w ⟨fun c1 => ?_, fun c1 => ⟨fun c2 => ?_, fun c2 => ⟨fun c3 => ?_, fun c3 => ⟨fun c4 => ?_, fun c4 => ⟨fun c5 => ?_, fun c5 => ⟨fun c6 => ?_, fun c6 => ?_⟩⟩⟩⟩⟩⟩)
  · rw [if_pos c1] at k; exact k.exc hA h0 rfl
  · rw [if_neg c1, if_pos c2] at k; exact k.exc hA h0 rfl
  · rw [if_neg c1, if_neg c2, if_pos c3] at k; exact k.exc hA h0 rfl
  · rw [if_neg c1, if_neg c2, if_neg c3, if_pos c4] at k; exact k.exc hA h0 rfl
  · rw [if_neg c1, if_neg c2, if_neg c3, if_neg c4, if_pos c5] at k; exact k.exc hA h0 rfl
  · rw [if_neg c1, if_neg c2, if_neg c3, if_neg c4, if_neg c5, if_pos c6] at k
    have hk := k.ask hA h0
    -- the end is e
    have gath : ∀ e : Int32, endA (cJ x) (comH x) q s (hC (cH x)) = e → ¬ e = -1 → e ≤ hW (cH x) → Cl E 5 m_Hi_gather [.ref (A 23), .ref (A 1), .int q, .int s, .int e] G (aft E 7 m_St_resultAnew 77 [none, none, none, some (.int w), none, none] [] Post) := by
      intro e he hne hle
      refine c_gather hHi.1 hw hcl hR.2.2.1 j0 j1 j3 (fun G' y1 y2 y3 y4 z1 z2 => ?_)
      rw [hcev] at y2
      have s4 : Stq ([23].map A) G o G' o := y4
      have f := hO.fr hA s4 (by decide)
      have kk := k G' o p ⟨ea, p1, p2, p3, p4, p5, ⟨s4.wf, (f.1 (by decide)).1, f.2.1 (by decide), (f.1 (by decide)).2, f.2.2.1 (by decide), f.2.2.2.1 (by decide), f.2.2.2.2.1 (by decide), f.2.2.2.2.2.1 (by decide), ⟨y1, hHi.2⟩, f.2.2.2.2.2.2.2 (by decide)⟩, hp⟩ (FrC.ofA hA s4 (by decide)) ⟨by omega, by omega⟩
      have kk : Post (.inl (some (.int (anw (cJ x) (comH x) (hC (cH x)) (hW (cH x)) q s w)))) G' := kk
      unfold anw at kk
      rw [he, if_neg hne, if_pos hle] at kk
      unfold anwG at kk
      rw [← y2] at kk
      refine wp_St_resultAnew_80 w (A 25) ⟨y1.2.2.2.2.2.2.1, fun f => ?_, fun f => ?_⟩
      · have f' : ¬ wC (rW G' (A 25)) = 0 := f
        rw [if_neg f'] at kk
        unfold numW at kk
        refine ⟨fun g => ⟨fun g2 => ?_, fun g2 => ?_⟩, fun g => ?_⟩
        · rw [if_neg g, if_neg g2] at kk; exact kk
        · rw [if_neg g, if_pos g2] at kk; exact kk
        · rw [if_pos g] at kk; exact kk
      · have f' : wC (rW G' (A 25)) = 0 := f
        rw [if_pos f'] at kk; exact kk
    have none1 : endA (cJ x) (comH x) q s (hC (cH x)) = -1 → Post (.inl (some (.int (-1000000)))) G := fun z => by
      have hk : Post (.inl (some (.int (anw (cJ x) (comH x) (hC (cH x)) (hW (cH x)) q s w)))) G := hk
      unfold anw at hk
      rw [if_pos z] at hk; exact hk
    have none2 : ∀ e : Int32, endA (cJ x) (comH x) q s (hC (cH x)) = e → ¬ e ≤ hW (cH x) → Post (.inl (some (.int (-1000000)))) G := fun e he z => by
      by_cases h1 : endA (cJ x) (comH x) q s (hC (cH x)) = -1
      · exact none1 h1
      · have hk : Post (.inl (some (.int (anw (cJ x) (comH x) (hC (cH x)) (hW (cH x)) q s w)))) G := hk
        unfold anw at hk
        rw [if_neg h1, he, if_neg z] at hk; exact hk
    refine ⟨hR.1, A 1, hR.2.2.2.2.1, hR.2.2.1, ?_⟩
    rw [j0, j1, j2]
    refine ⟨fun g => ⟨fun l => ⟨fun z => ?_, fun m => none1 ?_, fun m => ⟨fun n => none1 ?_, fun n => ⟨A 23, hR.2.2.2.2.2.2.2.2.1, hHi.1.1, ?_⟩⟩⟩, fun l => ⟨fun m => absurd rfl m, fun _ => ⟨fun n => none1 ?_, fun n => ⟨A 23, hR.2.2.2.2.2.2.2.2.1, hHi.1.1, ?_⟩⟩⟩⟩, fun g => ⟨A 23, hR.2.2.2.2.2.2.2.2.1, hHi.1.1, ?_⟩⟩
    · rw [z] at l; exact absurd l (by decide +kernel)
    · unfold endA; rw [if_neg g, if_neg (by unfold laS; rw [if_pos l]; exact m)]
    · unfold endA; rw [if_neg g, if_pos (by unfold laS; rw [if_pos l]; exact m)]; exact n
    · have he : endA (cJ x) (comH x) q s (hC (cH x)) = s + cJ x 1 := by unfold endA; rw [if_neg g, if_pos (by unfold laS; rw [if_pos l]; exact m)]
      rw [ew]
      exact ⟨fun z => gath _ he n z, fun z => none2 _ he z⟩
    · unfold endA; rw [if_neg g, if_pos (by unfold laS; rw [if_neg l])]; exact n
    · have he : endA (cJ x) (comH x) q s (hC (cH x)) = s + cJ x 1 := by unfold endA; rw [if_neg g, if_pos (by unfold laS; rw [if_neg l])]
      rw [ew]
      exact ⟨fun z => gath _ he n z, fun z => none2 _ he z⟩
    · refine c_endByGap hHi.1 hcl hR.2.2.1 j0 j1 j3 ?_
      rw [hcev]
      have he : endA (cJ x) (comH x) q s (hC (cH x)) = endG (cJ x 0) (cJ x 1) (cJ x 3) q s (comH x) (hC (cH x)) := by unfold endA; rw [if_pos g]
      refine wp_St_resultAnew_30 (A 0) q s w _ ⟨fun z => none1 (he.trans z), fun z => ⟨hR.1, A 23, hR.2.2.2.2.2.2.2.2.1, hHi.1.1, ?_⟩⟩
      rw [ew]
      exact ⟨fun y => ⟨A 1, hR.2.2.2.2.1, gath _ he z y⟩, fun y => none2 _ he y⟩
  · rw [if_neg c1, if_neg c2, if_neg c3, if_neg c4, if_neg c5, if_neg c6] at k; exact k.exc hA h0 rfl
end FACE6
