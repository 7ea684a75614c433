section FACE2
variable {E : EV} {G : GH} {Post : Res → GH → Prop} {o A : Nat → Nat} {x : XS} {p : Nat} {nm : List String}
theorem InjA.n1 {i j : Nat} (hA : InjA A) (hi : i < 34) (hj : j < 34) (h : i ≠ j) : A i ∉ [A j] := hA.nm (js := [j]) hi (fun z hz => by rw [List.mem_singleton.mp hz]; exact ⟨hj, fun e => h e.symm⟩)
theorem eNe {ea : Nat → List Nat} {sc : SC} (h : SoS E G o A ea sc p) {s i e j : Nat} (hs : s < 3) (he : (ea s)[i]? = some e) (hj : j < 34) : e ≠ A j := ((h.2.2.2.1 s hs).2.2.2.2.2.2.2.2.2 i e he).2.2.1 j hj
/-- slack, idle -/
theorem SoS.setF {ea : Nat → List Nat} {sc : SC} {s f : Nat} {v : Int32} {sl id : Nat → Int32} (hA : InjA A) (h : SoS E G o A ea sc p) (hw : Wf G) (hs : s < 3) (h5 : ∀ j, j < 3 → gI (sI G f (A (3 + s)) v) 385 (A (3 + j)) = sl j) (h6 : ∀ j, j < 3 → gI (sI G f (A (3 + s)) v) 386 (A (3 + j)) = id j) : SoS E (sI G f (A (3 + s)) v) o A ea (sEv sc, sl, id, sEm sc) p := by
  have st : Stq [A (3 + s)] G o (sI G f (A (3 + s)) v) o := (Stq.rf hw).wI (fun _ => by rw [(h.2.2.2.1 s hs).2.2.1]; exact in1)
  have h' := h
  obtain ⟨a1, a2, a3, a4, c, a5, a6⟩ := h
  refine ⟨a1, a2, a3, fun j hj => ?_, c, fun j hj => (a5 j hj).stp hw st (hA.n1 (by omega) (by omega) (by omega)), a6⟩
  obtain ⟨b1, b2, b3, b4, b5, b6, b7, b8, b9, b10⟩ := a4 j hj
  refine ⟨b1, b2, b3, b4, h5 j hj, h6 j hj, b7, b8, b9, fun k e hk => ?_⟩
  obtain ⟨c1, c2, c3, c4⟩ := b10 k e hk
  exact ⟨c1, c2, c3, fun u hu => (rE_sm (sI_sm (c3 (3 + s) (by omega)))).trans (c4 u hu)⟩
def setSl (sc : SC) (s : Nat) (v : Int32) : SC := (sEv sc, up1 (sSl sc) s v, sId sc, sEm sc)
def setId (sc : SC) (s : Nat) (v : Int32) : SC := (sEv sc, sSl sc, up1 (sId sc) s v, sEm sc)
theorem StO.setS {ea : Nat → List Nat} {p1 p2 p3 p4 p5 f s : Nat} {v : Int32} {sc : SC} (hA : InjA A) (h : StO E G o A ea x p1 p2 p3 p4 p5) (hs : s < 3) (hS : SoS E (sI G f (A (3 + s)) v) o A ea sc p1) :
    StO E (sI G f (A (3 + s)) v) o A ea (cJ x, sc, cN x, cP x, cH x, cK x, cB x, cT x) p1 p2 p3 p4 p5 ∧ Stq ([3 + s].map A) G o (sI G f (A (3 + s)) v) o := by
  have st : Stq ([3 + s].map A) G o (sI G f (A (3 + s)) v) o := (Stq.rf h.1).wI (fun _ => by rw [(h.2.2.2.2.2.1.2.2.2.1 s hs).2.2.1]; exact in1)
  have fr := h.fr hA st (by intro j hj; simp at hj; omega)
  have c : s = 0 ∨ s = 1 ∨ s = 2 := by omega
  rcases c with c | c | c <;> subst c <;>
  exact ⟨⟨st.wf, (fr.1 (by decide)).1, fr.2.1 (by decide), (fr.1 (by decide)).2, fr.2.2.1 (by decide), hS, fr.2.2.2.2.1 (by decide), fr.2.2.2.2.2.1 (by decide), fr.2.2.2.2.2.2.1 (by decide), fr.2.2.2.2.2.2.2 (by decide)⟩, st⟩
theorem SoS.sl {ea : Nat → List Nat} {sc : SC} {s : Nat} {v : Int32} (hA : InjA A) (h : SoS E G o A ea sc p) (hw : Wf G) (hs : s < 3) : SoS E (sI G 385 (A (3 + s)) v) o A ea (setSl sc s v) p := by
  refine h.setF hA hw hs (fun j hj => ?_) (fun j hj => (gI_ne (by decide)).trans (h.2.2.2.1 j hj).2.2.2.2.2.1)
  show gI _ 385 (A (3 + j)) = if j = s then v else sSl sc j
  by_cases c : j = s
  · rw [c, gI_eq, if_pos rfl]
  · rw [gI_sI, if_neg (fun z => hA.ne (by omega) (by omega) (by omega) z.2), if_neg c]
    exact (h.2.2.2.1 j hj).2.2.2.2.1
theorem SoS.idl {ea : Nat → List Nat} {sc : SC} {s : Nat} {v : Int32} (hA : InjA A) (h : SoS E G o A ea sc p) (hw : Wf G) (hs : s < 3) : SoS E (sI G 386 (A (3 + s)) v) o A ea (setId sc s v) p := by
  refine h.setF hA hw hs (fun j hj => (gI_ne (by decide)).trans (h.2.2.2.1 j hj).2.2.2.2.1) (fun j hj => ?_)
  show gI _ 386 (A (3 + j)) = if j = s then v else sId sc j
  by_cases c : j = s
  · rw [c, gI_eq, if_pos rfl]
  · rw [gI_sI, if_neg (fun z => hA.ne (by omega) (by omega) (by omega) z.2), if_neg c]
    exact (h.2.2.2.1 j hj).2.2.2.2.2.1
def fSlack (x : XS) (q v : Int32) : OU := if sIx q < 3 then (if v < 0 then (2, 0, x) else if (200 : Int32) < v then (2, 0, x) else if tB (cT x) = 0 then (0, sSl (cS x) (sIx q), (cJ x, setSl (cS x) (sIx q) v, cN x, cP x, cH x, cK x, cB x, cT x)) else (3, 0, x)) else (1, 0, x)
def fIdle (x : XS) (q v : Int32) : OU := if sIx q < 3 then (0, sId (cS x) (sIx q), lookS (cJ x, setId (cS x) (sIx q) v, cN x, cP x, cH x, cK x, cB x, cT x)) else (1, 0, x)
theorem c_idle {q v : Int32} (hA : InjA A) (h : StS E G o A x p) (hv : v = 0 ∨ v = 1) (hid : ∀ s, s < 3 → sId (cS x) s = 0 ∨ sId (cS x) s = 1) (hn : (kL (cK x)).length + (gWi (cN x)).length ≤ 2900) (k : KF E A G o p Post [xIO] (fIdle x q v)) : Cl E 10 m_St_idle [.ref (A 0), .int q, .int v] G Post := by
  have h0 := h
  obtain ⟨ea, p1, p2, p3, p4, p5, hO, hp⟩ := h
  obtain ⟨hw, hR, hJ, hT, hB, hSo, hPg, hPs, hHi, hSi⟩ := id hO
  unfold fIdle at k
  refine j_enter (L := [some (.ref (A 0)), some (.int q), some (.int v), none]) me_St_idle (cat_c rfl (cat_c rfl (cat_c rfl cat_n))) (Nat.le_of_ble_eq_true rfl) rfl (wp_St_idle_0 (A 0) q v (src3 (fun hq => ?_) (fun s hs hq hx => ?_)))
  · rw [if_neg hq] at k
    exact k.exc hA h0 rfl
  subst hq; rw [if_pos (by omega), hx] at k
  have so := hSo.2.2.2.1 s hs
  refine ⟨hR.1, A 2, hR.2.2.2.2.2.1, Or.inr hSo.1, s, ix3 hs hSo.2.1, A (3 + s), so.1, so.2.1, hv, ?_⟩
  rw [so.2.2.2.2.2.1]
  obtain ⟨h2, st⟩ := hO.setS hA hs (hSo.idl (v := v) hA hw hs)
  refine c_lookS hA ⟨ea, p1, p2, p3, p4, p5, h2, hp⟩ hn (fun G' o' p' y1 y2 y3 => wp_St_idle_28 _ ⟨hid s hs, k G' o' p' y1 (FrC.ofA (js := [3 + s, 9, 13, 26, 27]) hA ((st.mono (subA (by intro j hj; simp at hj; simp [hj]))).tr (y2.mono (subA (by intro j hj; simp at hj ⊢; omega)))) (by intro j hj; simp at hj; omega)) ?_⟩)
  exact Cs.one y3
/-- offsets -/
theorem PgS.setOf {b s : Nat} {P : PG} {v : Nat} (hA : InjA A) (h : PgS E G o A b P p) (hw : Wf G) (hb : b + 6 < 31) (hs : s < 3) (st : Stq ([b].map A) G o (sA G (A (b + 1)) s (nI v)) o) : PgS E (sA G (A (b + 1)) s (nI v)) o A b (up1 (gOf P) s v, gTk P, gGr P, gMk P, gHl P, gDr P, gPa P, gWi P) p := by
  obtain ⟨a1, a2, a3, a4, a5, a6, rows, spare, a7, a8, a9⟩ := h
  obtain ⟨-, -, -, -, -, -, l10, l11, l12, l1, l2, l3⟩ := id a1
  have n := hA.n1 (i := b + 4) (j := b) (by omega) (by omega) (by omega)
  refine ⟨a1.stp hw st (fun _ => rfl), fun j hj => ⟨?_, ?_, ?_⟩, a3, a4, a5, a6, rows, spare, a7.stp hw st n (hA.n1 (i := b + 5) (j := b) (by omega) (by omega) (by omega)) (hA.n1 (i := b + 6) (j := b) (by omega) (by omega) (by omega)), ((a7.2.2.2.2.2.1.sub (List.sublist_append_left _ _)).map hw st n).trans a8, a9⟩
  · rw [gA_sA]
    show _ = nI (if j = s then v else gOf P j)
    by_cases c : j = s
    · rw [if_pos ⟨rfl, c⟩, if_pos c]
    · rw [if_neg (fun z => c z.2), if_neg c]; exact (a2 j hj).1
  · rw [gA_sA, if_neg (fun z => l1 z.1.symm)]; exact (a2 j hj).2.1
  · rw [gA_sA, if_neg (fun z => l2 z.1.symm)]; exact (a2 j hj).2.2
def setOf (P : PG) (s v : Nat) : PG := (up1 (gOf P) s v, gTk P, gGr P, gMk P, gHl P, gDr P, gPa P, gWi P)
def fRead (x : XS) (q : Int32) : OU := if sIx q < 3 then (if gOf (cN x) (sIx q) < (sEv (cS x) (sIx q)).length then (if gOf (cN x) (sIx q) - gTk (cN x) (sIx q) < 4 then (0, nI (gOf (cN x) (sIx q) + 1 - gTk (cN x) (sIx q)), (cJ x, cS x, setOf (cN x) (sIx q) (gOf (cN x) (sIx q) + 1), cP x, cH x, cK x, cB x, (1, tS (cT x), tU (cT x), tW (cT x)))) else (2, 0, x)) else (2, 0, x)) else (1, 0, x)
theorem c_read {q : Int32} (hA : InjA A) (h : StS E G o A x p) (hb : ∀ s, s < 3 → gTk (cN x) s ≤ gOf (cN x) s ∧ gOf (cN x) s ≤ 1000) (k : KF E A G o p Post [xIO, xIS] (fRead x q)) : Cl E 2 m_St_read [.ref (A 0), .int q] G Post := by
  have h0 := h
  obtain ⟨ea, p1, p2, p3, p4, p5, hO, hp⟩ := h
  obtain ⟨hw, hR, hJ, hT, hB, hSo, hPg, hPs, hHi, hSi⟩ := id hO
  unfold fRead at k
  refine j_enter (L := [some (.ref (A 0)), some (.int q)]) me_St_read (cat_c rfl (cat_c rfl cat_n)) (Nat.le_of_ble_eq_true rfl) rfl (wp_St_read_0 (A 0) q (src3 (fun hq => ?_) (fun s hs hq hx => ?_)))
  · rw [if_neg hq] at k
    exact k.exc hA h0 rfl
  subst hq; rw [if_pos (by omega), hx] at k
  have so := hSo.2.2.2.1 s hs
  have a10 := hPg.1.2.2.2.2.2.2.1
  have a11 := hPg.1.2.2.2.2.2.2.2.1
  have la := hSo.2.2.2.2
  obtain ⟨c, la, lp⟩ := la
  have la := la s hs
  have e1 : gA G (A 10) s = nI (gOf (cN x) s) := (hPg.2.1 s hs).1
  have e2 : gA G (A 11) s = nI (gTk (cN x) s) := (hPg.2.1 s hs).2.1
  obtain ⟨hb1, hb2⟩ := hb s hs
  refine ⟨hR.1, A 9, hR.2.2.2.2.2.2.1, hPg.1.1, A 10, hPg.1.2.2.1, Or.inl a10.1, s, ix3 hs a10.2.1, A 2, hR.2.2.2.2.2.1, Or.inr hSo.1, s, ix3 hs hSo.2.1, A (3 + s), so.1, so.2.1, A (6 + s), so.2.2.2.1, la.tg, ?_⟩
  rw [e1, la.sz, so.2.2.2.2.2.2.1]
  have hle : (sEv (cS x) s).length ≤ 40 := by rw [← so.2.2.2.2.2.2.1]; exact so.2.2.2.2.2.2.2.1
  refine ⟨fun c1 => ?_, fun c1 => ?_⟩
  · have c1' : gOf (cN x) s < (sEv (cS x) s).length := Nat.lt_of_not_le (fun z => nI_nlt z (by omega) c1)
    rw [if_pos c1'] at k
    refine ⟨A 11, hPg.1.2.2.2.1, Or.inl a11.1, s, ix3 hs a11.2.1, ?_⟩
    rw [e2, nI_sub hb1]
    refine ⟨fun c2 => ⟨a10.1, ?_⟩, fun c2 => ?_⟩
    · have c2' : gOf (cN x) s - gTk (cN x) s < 4 := Nat.lt_of_not_le (fun z => nI_nlt (b := 4) z (by omega) c2)
      rw [if_pos c2'] at k
      have s1 : Stq ([0].map A) G o (sI G 583 (A 0) 1) o := (Stq.rf hw).wI (fun _ => by rw [hR.2.1]; exact in1)
      have f1 := hO.fr hA s1 (by decide)
      have h1 : StO E (sI G 583 (A 0) 1) o A ea (cJ x, cS x, cN x, cP x, cH x, cK x, cB x, (1, tS (cT x), tU (cT x), tW (cT x))) p1 p2 p3 p4 p5 :=
        ⟨s1.wf, hR.stp hw s1 (fun _ => rfl), f1.2.1 (by decide), ⟨gI_eq, (gI_ne (by decide)).trans hT.2.1, (gI_ne (by decide)).trans hT.2.2.1, (gI_ne (by decide)).trans hT.2.2.2⟩, f1.2.2.1 (by decide), f1.2.2.2.1 (by decide), f1.2.2.2.2.1 (by decide), f1.2.2.2.2.2.1 (by decide), f1.2.2.2.2.2.2.1 (by decide), f1.2.2.2.2.2.2.2 (by decide)⟩
      have e3 : gA (sI G 583 (A 0) 1) (A 10) s = nI (gOf (cN x) s) := e1
      have e4 : gA (sI G 583 (A 0) 1) (A 11) s = nI (gTk (cN x) s) := e2
      rw [e3, nI_1]
      have hw1 := s1.wf
      have z1 : gz (sI G 583 (A 0) 1) = gz G := rfl
      have z2 : gs (sI G 583 (A 0) 1) = gs G := rfl
      generalize sI G 583 (A 0) 1 = G1 at *
      have g1 := h1.2.2.2.2.2.2.1
      have ow : o (A 10) = A 9 := a10.2.2
      have s2 : Stq ([9].map A) G1 o (sA G1 (A 10) s (nI (gOf (cN x) s + 1))) o := (Stq.rf hw1).wA (fun _ => by rw [ow]; exact in1)
      have f2 := h1.fr hA s2 (by decide)
      have h2 := g1.setOf (b := 9) (v := gOf (cN x) s + 1) hA hw1 (by omega) hs s2
      have e5 : gA (sA G1 (A 10) s (nI (gOf (cN x) s + 1))) (A 10) s = nI (gOf (cN x) s + 1) := by rw [gA_sA, if_pos ⟨rfl, rfl⟩]
      have e6 : gA (sA G1 (A 10) s (nI (gOf (cN x) s + 1))) (A 11) s = nI (gTk (cN x) s) := by rw [gA_sA, if_neg (fun z => hA.ne (by omega) (by omega) (by omega) z.1)]; exact e4
      rw [e5, e6, nI_sub (by omega)]
      refine k _ o p ⟨ea, p1, p2, p3, p4, p5, ⟨s2.wf, (f2.1 (by decide)).1, f2.2.1 (by decide), (f2.1 (by decide)).2, f2.2.2.1 (by decide), f2.2.2.2.1 (by decide), h2, f2.2.2.2.2.2.1 (by decide), f2.2.2.2.2.2.2.1 (by decide), f2.2.2.2.2.2.2.2 (by decide)⟩, hp⟩ (FrC.ofA (js := [0, 9]) hA ((s1.mono (subA (by decide))).tr (s2.mono (subA (by decide)))) (by decide)) ?_
      exact ⟨by show gz G1 + p ≤ _; omega, by show gs G1 + 6 * p ≤ _; omega⟩
    · rw [if_neg (fun z => c2 (nI_lt (b := 4) z (by omega)))] at k
      exact k.exc hA h0 rfl
  · rw [if_neg (fun z => c1 (nI_lt z (by omega)))] at k
    exact k.exc hA h0 rfl
end FACE2
