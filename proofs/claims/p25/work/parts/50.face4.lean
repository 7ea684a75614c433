section FACE4
variable {E : EV} {G : GH} {Post : Res → GH → Prop} {o A : Nat → Nat} {x : XS} {p : Nat} {nm : List String}
def setB (x : XS) (b : BS) : XS := (cJ x, cS x, cN x, cP x, cH x, cK x, b, cT x)
def fTb (x : XS) (s : Nat) : OU := if up1 (bT (cB x)) s 1 0 = 0 ∨ up1 (bT (cB x)) s 1 1 = 0 ∨ up1 (bT (cB x)) s 1 2 = 0 then (0, 3, setB x (bA (cB x), up1 (bT (cB x)) s 1, bU (cB x))) else (0, 4, snapS (setB x (bA (cB x), up1 (bT (cB x)) s 1, 0)))
theorem c_takeBarrier {s : Nat} (hA : InjA A) (h : StS E G o A x p) (hs : s < 3) (k : KF E A G o p Post nm (fTb x s)) (h0 : (fTb x s).1 = 0) : Cl E 10 m_St_takeBarrier [.ref (A 0), .int (nI s)] G Post := by
  obtain ⟨ea, p1, p2, p3, p4, p5, hO, hp⟩ := h
  obtain ⟨hw, hR, hJ, hT, hB, hSo, hPg, hPs, hHi, hSi⟩ := id hO
  obtain ⟨⟨b1, b2, b3, b4, b5, b6, b7, b8⟩, c1, c2⟩ := id hB
  refine j_enter (L := [some (.ref (A 0)), some (.int (nI s))]) me_St_takeBarrier (cat_c rfl (cat_c rfl cat_n)) (Nat.le_of_ble_eq_true rfl) rfl (wp_St_takeBarrier_0 (A 0) (nI s) ⟨hR.1, A 28, hR.2.2.2.2.2.2.2.2.2.2, b1, A 30, b4, b6, s, ix3 hs b7, ?_⟩)
  have s1 : Stq ([28].map A) G o (sA G (A 30) s 1) o := (Stq.rf hw).wA (fun _ => by rw [b8]; exact in1)
  have f1 := hO.fr hA s1 (by decide)
  have hB1 : BaS (sA G (A 30) s 1) o A (bA (cB x), up1 (bT (cB x)) s 1, bU (cB x)) := by
    refine ⟨hB.1.stp hw s1 (fun _ => rfl), fun j hj => ⟨?_, ?_⟩, c2⟩
    · rw [gA_sA, if_neg (fun z => hA.ne (i := 29) (j := 30) (by omega) (by omega) (by omega) z.1)]; exact (c1 j hj).1
    · rw [gA_sA]
      show _ = if j = s then 1 else bT (cB x) j
      by_cases c : j = s
      · rw [if_pos ⟨rfl, c⟩, if_pos c]
      · rw [if_neg (fun z => c z.2), if_neg c]; exact (c1 j hj).2
  have h1 : StO E (sA G (A 30) s 1) o A ea (setB x (bA (cB x), up1 (bT (cB x)) s 1, bU (cB x))) p1 p2 p3 p4 p5 :=
    ⟨s1.wf, (f1.1 (by decide)).1, f1.2.1 (by decide), (f1.1 (by decide)).2, hB1, f1.2.2.2.1 (by decide), f1.2.2.2.2.1 (by decide), f1.2.2.2.2.2.1 (by decide), f1.2.2.2.2.2.2.1 (by decide), f1.2.2.2.2.2.2.2 (by decide)⟩
  have z1 : gz (sA G (A 30) s 1) = gz G := rfl
  have z2 : gs (sA G (A 30) s 1) = gs G := rfl
  generalize sA G (A 30) s 1 = G1 at *
  refine c_isTakenOfAll hB1.1 ?_
  rw [show gA G1 (A 30) 0 = up1 (bT (cB x)) s 1 0 from (hB1.2.1 0 (by omega)).2, show gA G1 (A 30) 1 = up1 (bT (cB x)) s 1 1 from (hB1.2.1 1 (by omega)).2, show gA G1 (A 30) 2 = up1 (bT (cB x)) s 1 2 from (hB1.2.1 2 (by omega)).2]
  refine wp_St_takeBarrier_15 (A 0) _ ⟨fun hc => ⟨h1.2.1.1, A 28, h1.2.1.2.2.2.2.2.2.2.2.2.2, hB1.1.1, ?_⟩, fun hc => ?_⟩
  · have hn : ¬ (up1 (bT (cB x)) s 1 0 = 0 ∨ up1 (bT (cB x)) s 1 1 = 0 ∨ up1 (bT (cB x)) s 1 2 = 0) := fun z => hc (if_pos z)
    unfold fTb at k
    rw [if_neg hn] at k
    have hw1 := h1.1
    have s2 : Stq ([28].map A) G1 o (sI G1 2 (A 28) 0) o := (Stq.rf hw1).wI (fun _ => by rw [b2]; exact in1)
    have f2 := h1.fr hA s2 (by decide)
    have h2 : StO E (sI G1 2 (A 28) 0) o A ea (setB x (bA (cB x), up1 (bT (cB x)) s 1, 0)) p1 p2 p3 p4 p5 :=
      ⟨s2.wf, (f2.1 (by decide)).1, f2.2.1 (by decide), (f2.1 (by decide)).2, ⟨hB1.1.stp hw1 s2 (fun _ => rfl), hB1.2.1, gI_eq⟩, f2.2.2.2.1 (by decide), f2.2.2.2.2.1 (by decide), f2.2.2.2.2.2.1 (by decide), f2.2.2.2.2.2.2.1 (by decide), f2.2.2.2.2.2.2.2 (by decide)⟩
    refine c_snapS hA ⟨ea, p1, p2, p3, p4, p5, h2, hp⟩ (fun G' o' p' y1 y2 y3 => wp_St_takeBarrier_32 (k G' o' p' y1 (FrC.ofA (js := [0, 16, 20, 21, 22, 26, 28]) hA ((s1.mono (subA (by decide))).tr ((s2.mono (subA (by decide))).tr (y2.mono (subA (by decide))))) (by decide)) ?_))
    have v1 := y3.1
    have v2 := y3.2
    have v3 : gz (sI G1 2 (A 28) 0) = gz G1 := rfl
    have v4 : gs (sI G1 2 (A 28) 0) = gs G1 := rfl
    exact ⟨by omega, by omega⟩
  · have hn : up1 (bT (cB x)) s 1 0 = 0 ∨ up1 (bT (cB x)) s 1 1 = 0 ∨ up1 (bT (cB x)) s 1 2 = 0 := Classical.byContradiction (fun z => by rw [if_neg z] at hc; exact absurd hc (by decide +kernel))
    unfold fTb at k
    rw [if_pos hn] at k
    exact k G1 o p ⟨ea, p1, p2, p3, p4, p5, h1, hp⟩ (FrC.ofA hA s1 (by decide)) ⟨by omega, by omega⟩
/-- what take needs -/
def TkOK (x : XS) : Prop := (hL (cH x)).length ≤ 2000 ∧ (gWi (cN x)).length ≤ 1900 ∧ (kL (cK x)).length + (gWi (cN x)).length ≤ 2900 ∧ UQ (gWi (cN x)) ∧ (∀ s, s < 3 → gTk (cN x) s ≤ gOf (cN x) s ∧ gOf (cN x) s ≤ (sEv (cS x) s).length ∧ (sEv (cS x) s).length ≤ 40 ∧ bA (cB x) s ≤ 1000) ∧ ∀ s, s < 3 → gTk (cN x) s < gOf (cN x) s → (kL (cK (tkEv x s (gTk (cN x) s) ((sEv (cS x) s).getD (gTk (cN x) s) (0, 0, 0))))).length + (gWi (cN (tkEv x s (gTk (cN x) s) ((sEv (cS x) s).getD (gTk (cN x) s) (0, 0, 0))))).length ≤ 2900
def fEv (x : XS) (s : Nat) : OU := if gTk (cN x) s < gOf (cN x) s then (0, tkAns x ((sEv (cS x) s).getD (gTk (cN x) s) (0, 0, 0)), lookS (tkEv x s (gTk (cN x) s) ((sEv (cS x) s).getD (gTk (cN x) s) (0, 0, 0)))) else (2, 0, x)
def fTake (x : XS) (q : Int32) : OU := if sIx q < 3 then (if bU (cB x) = 0 then fEv x (sIx q) else if bT (cB x) (sIx q) = 0 then (if bA (cB x) (sIx q) = gTk (cN x) (sIx q) then fTb x (sIx q) else fEv x (sIx q)) else (2, 0, x)) else (1, 0, x)
theorem FrC.ofB {G' : GH} {o' : Nat → Nat} {b : Nat} {js : List Nat} (hA : InjA A) (s : Stq (b :: js.map A) G o G' o') (hb : ∀ j, j < 34 → b ≠ A j) (hj : ∀ j ∈ js, j < 31) : FrC A G o G' o' :=
  ⟨_, fun j hj' z => by
    have h34 : j < 34 := by simp at hj'; omega
    rcases List.mem_cons.mp z with z | z
    · exact hb j h34 z.symm
    · exact hA.nj h34 (fun i hi => by have := hj i hi; omega) (fun z => by have := hj j z; simp at hj'; omega) z, s⟩
theorem c_take {q : Int32} (hA : InjA A) (h : StS E G o A x p) (hK : TkOK x) (k : KF E A G o p Post [xIO, xIS] (fTake x q)) : Cl E 12 m_St_take [.ref (A 0), .int q] G Post := by
  have h0 := h
  obtain ⟨ea, p1, p2, p3, p4, p5, hO, hp⟩ := h
  obtain ⟨hw, hR, hJ, hT, hB, hSo, hPg, hPs, hHi, hSi⟩ := id hO
  obtain ⟨⟨b1, b2, b3, b4, b5, b6, b7, b8⟩, c1, c2⟩ := id hB
  obtain ⟨k1, k2, k3, k4, k5, k6⟩ := hK
  unfold fTake at k
  refine j_enter (L := [some (.ref (A 0)), some (.int q), none]) me_St_take (cat_c rfl (cat_c rfl cat_n)) (Nat.le_of_ble_eq_true rfl) rfl (wp_St_take_0 (A 0) q (src3 (fun hq => ?_) (fun s hs hq hx => ?_)))
  · rw [if_neg hq] at k
    exact k.exc hA h0 rfl
  subst hq; rw [if_pos (by omega), hx] at k
  have a10 := hPg.1.2.2.2.2.2.2.1
  have a11 := hPg.1.2.2.2.2.2.2.2.1
  obtain ⟨i1, i2, i3, i4⟩ := k5 s hs
  have so := hSo.2.2.2.1 s hs
  have ef : gA G (A 11) s = nI (gTk (cN x) s) := (hPg.2.1 s hs).2.1
  have eo : gA G (A 10) s = nI (gOf (cN x) s) := (hPg.2.1 s hs).1
  have ev : KF E A G o p Post [xIO, xIS] (fEv x s) → Cl E 4 m_St_frontOf [.ref (A 0), .int (nI s)] G (aft E 12 m_St_take 53 [some (.ref (A 0)), some (.int (nI s)), none] [] Post) := by
    intro k
    obtain ⟨c, la, lp⟩ := hSo.2.2.2.2
    have la := la s hs
    refine c_frontOf hR.1 hR.2.2.2.2.2.2.1 hPg.1.1 hPg.1.2.2.2.1 a11 hR.2.2.2.2.2.1 hSo.1 hSo.2.1 hs so.1 so.2.1 so.2.2.2.1 hPg.1.2.2.1 a10 la (fun e he => ?_) ef eo (by omega) (by rw [so.2.2.2.2.2.2.1]; exact i2) (fun hlt b hb tb => ?_) (fun hle => ?_)
    · obtain ⟨i, hi, he'⟩ := List.getElem_of_mem he
      exact (so.2.2.2.2.2.2.2.2.2 i e (by rw [List.getElem?_eq_getElem hi, he'])).1
    · refine wp_St_take_56 (A 0) (nI s) (some b) ⟨fun r1 hr => ⟨hR.1, ?_⟩, fun z => by cases z⟩
      cases hr
      unfold fEv at k
      rw [if_pos hlt] at k
      obtain ⟨v, ev1, -, -, -, nb⟩ := hSo.ev hs hb
      have eg : (sEv (cS x) s).getD (gTk (cN x) s) (0, 0, 0) = v := by rw [List.getD_eq_getElem?_getD, ev1]; rfl
      have k6' := k6 s hs hlt
      rw [eg] at k k6'
      refine c_takeEv hA hO hp hs hb ev1 rfl k1 k2 k3 k4 k6' (fun G' o' p' y1 y2 y3 => wp_St_take_77 _ ?_)
      exact k G' o' p' y1 (FrC.ofB hA y2 nb (by decide)) y3.one
    · refine wp_St_take_56 (A 0) (nI s) none ⟨fun r1 hr => (by cases hr), fun _ => ?_⟩
      unfold fEv at k
      rw [if_neg (by omega)] at k
      exact k.exc hA h0 rfl
  have eU : gI G 2 (A 28) = bU (cB x) := c2
  have eT : gA G (A 30) s = bT (cB x) s := (c1 s hs).2
  have eA : gA G (A 29) s = nI (bA (cB x) s) := (c1 s hs).1
  refine ⟨hR.1, A 28, hR.2.2.2.2.2.2.2.2.2.2, b1, ?_⟩
  rw [eU]
  refine ⟨fun hu => ⟨A 9, hR.2.2.2.2.2.2.1, hPg.1.1, A 11, hPg.1.2.2.2.1, Or.inl a11.1, s, ix3 hs a11.2.1, fun _ => ?_, fun z => absurd hu z⟩, fun hu => ⟨A 30, b4, b6, s, ix3 hs b7, ?_⟩⟩
  · rw [if_pos hu] at k
    exact ev k
  rw [if_neg hu] at k
  rw [eT]
  refine ⟨fun ht => ⟨A 9, hR.2.2.2.2.2.2.1, hPg.1.1, A 11, hPg.1.2.2.2.1, Or.inl a11.1, s, ix3 hs a11.2.1, fun z => absurd z hu, fun _ => ⟨fun z => absurd ht z, fun _ => ⟨A 29, b3, Or.inl b5.1, s, ix3 hs b5.2.1, ?_⟩⟩⟩, fun ht => ?_⟩
  · rw [if_pos ht] at k
    rw [eA, ef, nI_eq (by omega) (by omega)]
    refine ⟨fun z => ?_, fun z => ?_⟩
    · rw [if_neg z] at k
      exact ev k
    · rw [if_pos z] at k
      have f0 : (fTb x s).1 = 0 := by
        unfold fTb
        by_cases c : up1 (bT (cB x)) s 1 0 = 0 ∨ up1 (bT (cB x)) s 1 1 = 0 ∨ up1 (bT (cB x)) s 1 2 = 0
        · rw [if_pos c]
        · rw [if_neg c]
      refine c_takeBarrier (nm := [xIO, xIS]) hA h0 hs (fun G' o' p' y1 y2 y3 => ?_) f0
      have kk := k G' o' p' y1 y2 y3
      generalize fTb x s = f at *
      obtain ⟨a, b, c⟩ := f
      have f0 : a = 0 := f0
      subst f0
      exact wp_St_take_50 _ kk
  · rw [if_neg ht] at k
    exact k.exc hA h0 rfl
def brX (x : XS) : XS := (cJ x, cS x, cN x, cP x, cH x, cK x, (gOf (cN x), fun _ => 0, cJ x 5), (1, tS (cT x), tU (cT x), tW (cT x)))
def fBarrier (x : XS) : OU := if bU (cB x) = 0 then (if cJ x 5 = 0 then (0, tS (cT x) + 1, snapS (brX x)) else (0, tS (cT x), brX x)) else (1, 0, x)
theorem c_barrier (hA : InjA A) (h : StS E G o A x p) (h5 : cJ x 5 = 0 ∨ cJ x 5 = 1) (k : KF E A G o p Post [xIS] (fBarrier x)) : Cl E 10 m_St_barrier [.ref (A 0)] G Post := by
  have h0 := h
  obtain ⟨ea, p1, p2, p3, p4, p5, hO, hp⟩ := h
  obtain ⟨hw, hR, hJ, hT, hB, hSo, hPg, hPs, hHi, hSi⟩ := id hO
  unfold fBarrier at k
  refine j_enter (L := [some (.ref (A 0))]) me_St_barrier (cat_c rfl cat_n) (Nat.le_of_ble_eq_true rfl) rfl (wp_St_barrier_0 (A 0) ⟨hR.1, A 28, hR.2.2.2.2.2.2.2.2.2.2, hB.1.1, ?_⟩)
  rw [hB.2.2]
  refine ⟨fun c => ⟨A 9, hR.2.2.2.2.2.2.1, hPg.1.1, A 10, hPg.1.2.2.1, A 1, hR.2.2.2.2.1, hR.2.2.1, ?_⟩, fun c => ?_⟩
  · rw [if_pos c] at k
    rw [show gI G 197 (A 1) = cJ x 5 from hJ 5 (by omega)]
    have s1 : Stq ([0].map A) G o (sI G 583 (A 0) 1) o := (Stq.rf hw).wI (fun _ => by rw [hR.2.1]; exact in1)
    have f1 := hO.fr hA s1 (by decide)
    have h1 : StO E (sI G 583 (A 0) 1) o A ea (cJ x, cS x, cN x, cP x, cH x, cK x, cB x, (1, tS (cT x), tU (cT x), tW (cT x))) p1 p2 p3 p4 p5 :=
      ⟨s1.wf, hR.stp hw s1 (fun _ => rfl), f1.2.1 (by decide), ⟨gI_eq, (gI_ne (by decide)).trans hT.2.1, (gI_ne (by decide)).trans hT.2.2.1, (gI_ne (by decide)).trans hT.2.2.2⟩, f1.2.2.1 (by decide), f1.2.2.2.1 (by decide), f1.2.2.2.2.1 (by decide), f1.2.2.2.2.2.1 (by decide), f1.2.2.2.2.2.2.1 (by decide), f1.2.2.2.2.2.2.2 (by decide)⟩
    have z1 : gz (sI G 583 (A 0) 1) = gz G := rfl
    have z2 : gs (sI G 583 (A 0) 1) = gs G := rfl
    generalize sI G 583 (A 0) 1 = G1 at *
    have hB1 := h1.2.2.2.2.1
    have hPg1 := h1.2.2.2.2.2.2.1
    refine c_put hB1.1 h1.1 hPg1.1.2.2.2.2.2.2.1 (hA.ne (by omega) (by omega) (by omega)) h5 (fun G2 s2 y1 y2 y3 y4 y5 => ?_)
    have s2' : Stq ([28].map A) G1 o G2 o := s2
    have f2 := h1.fr hA s2' (by decide)
    have h2 : StO E G2 o A ea (brX x) p1 p2 p3 p4 p5 :=
      ⟨s2.wf, (f2.1 (by decide)).1, f2.2.1 (by decide), (f2.1 (by decide)).2, ⟨hB1.1.stp h1.1 s2 (fun f => y1 f _), fun j hj => ⟨(y2 j hj).1.trans (hPg1.2.1 j hj).1, (y2 j hj).2⟩, y3⟩, f2.2.2.2.1 (by decide), f2.2.2.2.2.1 (by decide), f2.2.2.2.2.2.1 (by decide), f2.2.2.2.2.2.2.1 (by decide), f2.2.2.2.2.2.2.2 (by decide)⟩
    obtain ⟨g1, g2, g3, g4, -⟩ := id h2
    refine wp_St_barrier_46 (A 0) ⟨g2.1, A 1, g2.2.2.2.2.1, g2.2.2.1, ?_⟩
    rw [show gI G2 197 (A 1) = cJ x 5 from g3 5 (by omega)]
    refine ⟨fun c5 => ?_, fun c5 => ?_⟩
    · rw [if_neg c5] at k
      rw [show gI G2 584 (A 0) = tS (cT x) from g4.2.1]
      exact k G2 o p ⟨ea, p1, p2, p3, p4, p5, h2, hp⟩ (FrC.ofA (js := [0, 28]) hA ((s1.mono (subA (by decide))).tr (s2'.mono (subA (by decide)))) (by decide)) ⟨by omega, by omega⟩
    · rw [if_pos c5] at k
      refine c_snapS hA ⟨ea, p1, p2, p3, p4, p5, h2, hp⟩ (fun G' o' p' w1 w2 w3 => ?_)
      have kk := k G' o' p' w1 (FrC.ofA (js := [0, 16, 20, 21, 22, 26, 28]) hA ((s1.mono (subA (by decide))).tr ((s2'.mono (subA (by decide))).tr (w2.mono (subA (by decide))))) (by decide)) ⟨by have := w3.1; omega, by have := w3.2; omega⟩
      obtain ⟨ea', q1, q2, q3, q4, q5, hO', -⟩ := w1
      refine wp_St_barrier_60 (A 0) ⟨hO'.2.1.1, ?_⟩
      rw [show gI G' 584 (A 0) = tS (cT x) + 1 from hO'.2.2.2.1.2.1]
      exact kk
  · rw [if_neg c] at k
    exact k.exc hA h0 rfl
end FACE4
