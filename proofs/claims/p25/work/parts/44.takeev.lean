/-- an event of the history, as it is read -/
def hE (sc : SC) (y : Nat × Nat) : ET := (nI y.1, ((sEv sc y.1).getD y.2 (0, 0, 0)).1, ((sEv sc y.1).getD y.2 (0, 0, 0)).2.1, ((sEv sc y.1).getD y.2 (0, 0, 0)).2.2, sEm sc y.1 y.2)
def setEm (sc : SC) (s i : Nat) (v : Int32) : SC := (sEv sc, sSl sc, sId sc, up2 (sEm sc) s i v)
theorem rE_68 {G : GH} {b : Nat} {v : Int32} : rE (sI G 68 b v) b = (gI G 64 b, gI G 65 b, gI G 66 b, gI G 67 b, v) := by
  show (gI (sI G 68 b v) 64 b, gI (sI G 68 b v) 65 b, gI (sI G 68 b v) 66 b, gI (sI G 68 b v) 67 b, gI (sI G 68 b v) 68 b) = _
  rw [gI_ne (by decide), gI_ne (by decide), gI_ne (by decide), gI_ne (by decide), gI_eq]
theorem SoS.ev {E : EV} {G : GH} {o A : Nat → Nat} {ea : Nat → List Nat} {sc : SC} {p s i b : Nat} (h : SoS E G o A ea sc p) (hs : s < 3) (hb : (ea s)[i]? = some b) : ∃ v, (sEv sc s)[i]? = some v ∧ rE G b = (nI s, v.1, v.2.1, v.2.2, sEm sc s i) ∧ gT G b = 2 ∧ o b = b ∧ ∀ j, j < 34 → b ≠ A j := by
  obtain ⟨b1, b2, b3, b4, b5, b6, b7, b8, b9, b10⟩ := h.2.2.2.1 s hs
  obtain ⟨c1, c2, c3, c4⟩ := b10 i b hb
  have hl := (List.getElem?_eq_some_iff.mp hb).1
  have e : (sEv sc s)[i]? = some ((sEv sc s)[i]'(by omega)) := List.getElem?_eq_getElem (by omega)
  exact ⟨_, e, c4 _ e, c1, c2, c3⟩
theorem SoS.setEm {E : EV} {G : GH} {o A : Nat → Nat} {ea : Nat → List Nat} {sc : SC} {p s i b : Nat} {v : Int32} (h : SoS E G o A ea sc p) (hw : Wf G) (hs : s < 3) (hb : (ea s)[i]? = some b) : SoS E (sI G 68 b v) o A ea (setEm sc s i v) p := by
  obtain ⟨w, hw1, hw2, hw3, hw4, hw5⟩ := h.ev hs hb
  have st : Stq [b] G o (sI G 68 b v) o := (Stq.rf hw).wI (fun _ => by rw [hw4]; exact in1)
  have h' := h
  obtain ⟨a1, a2, a3, a4, c, a5, a6⟩ := h
  refine ⟨a1, a2, a3, fun j hj => ?_, c, fun j hj => (a5 j hj).stp hw st (by rw [List.mem_singleton]; exact fun z => hw5 (6 + j) (by omega) z.symm), a6⟩
  obtain ⟨b1, b2, b3, b4, b5, b6, b7, b8, b9, b10⟩ := a4 j hj
  refine ⟨b1, b2, b3, b4, (gI_ne (by decide)).trans b5, (gI_ne (by decide)).trans b6, b7, b8, b9, fun k e hk => ?_⟩
  obtain ⟨c1, c2, c3, c4⟩ := b10 k e hk
  refine ⟨c1, c2, c3, fun u hu => ?_⟩
  by_cases ce : j = s ∧ k = i
  · rw [ce.1, ce.2] at hk hu
    rw [hb] at hk
    have e1 : b = e := Option.some.inj hk
    have hu' : (sEv sc s)[i]? = some u := hu
    rw [hw1] at hu'
    have e2 : w = u := Option.some.inj hu'
    rw [← e1, ← e2, ce.1, ce.2, rE_68]
    have q1 := congrArg (fun z : ET => z.1) hw2
    have q2 := congrArg (fun z : ET => z.2.1) hw2
    have q3 := congrArg (fun z : ET => z.2.2.1) hw2
    have q4 := congrArg (fun z : ET => z.2.2.2.1) hw2
    show _ = (nI s, w.1, w.2.1, w.2.2, up2 (sEm sc) s i v s i)
    rw [show up2 (sEm sc) s i v s i = v from if_pos ⟨rfl, rfl⟩]
    exact Prod.ext q1 (Prod.ext q2 (Prod.ext q3 (Prod.ext q4 rfl)))
  · have hne : e ≠ b := fun z => by
      by_cases cj : j = s
      · rw [cj, z] at hk
        have b9' := b9
        rw [cj] at b9'
        exact ce ⟨cj, (List.getElem?_inj (List.getElem?_eq_some_iff.mp hk).1 b9').mp (hk.trans hb.symm)⟩
      · have q1 := congrArg (fun z : ET => z.1) hw2
        have q2 := congrArg (fun z : ET => z.1) (c4 u hu)
        have q3 : gI G 64 b = nI s := q1
        have q4 : gI G 64 e = nI j := q2
        rw [z, q3, nI_eq (by omega) (by omega)] at q4
        exact cj q4.symm
    rw [rE_sm (sI_sm hne), c4 u hu]
    show _ = (nI j, u.1, u.2.1, u.2.2, up2 (sEm sc) s i v j k)
    rw [show up2 (sEm sc) s i v j k = sEm sc j k from if_neg ce]
theorem hist_map {E : EV} {G : GH} {o A : Nat → Nat} {ea : Nat → List Nat} {sc : SC} {h : HS} {p q : Nat} (hS : SoS E G o A ea sc p) (hH : HiS E G o A ea h q) : ((hL h).map (aOf ea)).map (rE G) = (hL h).map (hE sc) := by
  rw [List.map_map]
  refine List.map_congr_left (fun y hy => ?_)
  obtain ⟨h1, h2⟩ := hH.2 y hy
  have e : (ea y.1)[y.2]? = some (aOf ea y) := by
    unfold aOf
    rw [List.getElem?_eq_getElem h2, List.getD_eq_getElem?_getD, List.getElem?_eq_getElem h2]; rfl
  obtain ⟨v, e1, e2, -⟩ := hS.ev h1 e
  show rE G (aOf ea y) = hE sc y
  rw [e2]
  unfold hE
  rw [List.getD_eq_getElem?_getD, e1]; rfl
/-- what an event makes of the windows: they, what is written, whether it came to one -/
def admP (jb : Nat → Int32) (v : V3) (mk : Int32) (W : List WT) : List WT × List WT × Int32 :=
  if jb 0 = 2 then (if v.1 + jb 1 + jb 3 ≤ mk then (W, [], 0) else (gapL (v.2.1, v.1, v.1 + jb 1, 0 + 1, 0 + v.2.2, 0) mk W, gapR (v.2.1, v.1, v.1 + jb 1, 0 + 1, 0 + v.2.2, 0) mk W, 1))
  else (addsL v.2.1 (jb 1) v.2.2 mk (sts (bk (jb 2) (jb 1) v.1 7 (laS (jb 2) v.1)) (laS (jb 2) v.1) (jb 2) (jb 1) (jb 3) mk 8 0) W, addsR v.2.1 (jb 1) v.2.2 mk (sts (bk (jb 2) (jb 1) v.1 7 (laS (jb 2) v.1)) (laS (jb 2) v.1) (jb 2) (jb 1) (jb 3) mk 8 0) W, fl1 0 (sts (bk (jb 2) (jb 1) v.1 7 (laS (jb 2) v.1)) (laS (jb 2) v.1) (jb 2) (jb 1) (jb 3) mk 8 0))
/-- an event is taken: what is behind it, but for the windows and the sink -/
def tkB (x : XS) (s i : Nat) (v : V3) (W R : List WT) (dr : Int32) : XS :=
  (cJ x, setEm (cS x) s i (gMk (cN x)), (gOf (cN x), up1 (gTk (cN x)) s (i + 1), up1 (gGr (cN x)) s (if gGr (cN x) s < v.1 then v.1 else gGr (cN x) s), gMk (cN x), gHl (cN x) + 1, dr, gPa (cN x) + cntP (cJ x 4) (nI s, v.1, v.2.1, v.2.2, gMk (cN x)) 0 ((hL (cH x)).map (hE (setEm (cS x) s i (gMk (cN x))))), W), cP x, (hL (cH x) ++ [(s, i)], hC (cH x), hW (cH x)), (kL (cK x) ++ R, kC (cK x), kP (cK x)), cB x, cT x)
def tkEv (x : XS) (s i : Nat) (v : V3) : XS := tkB x s i v (admP (cJ x) v (gMk (cN x)) (gWi (cN x))).1 (admP (cJ x) v (gMk (cN x)) (gWi (cN x))).2.1 (if (admP (cJ x) v (gMk (cN x)) (gWi (cN x))).2.2 = 0 then gDr (cN x) + 1 else gDr (cN x))
def tkAns (x : XS) (v : V3) : Int32 := if (admP (cJ x) v (gMk (cN x)) (gWi (cN x))).2.2 = 0 then 2 else if gMk (cN x) ≤ v.1 then 0 else 1
