/-! the whole object, at fixed addresses A: 0 itself, 1 Job, 2 Source[], 3-5 sources, 6-8 their lists, 9 now, 10-12 its rows, 13 Windows, 14 15 its lists, 16-22 the same of snapshot, 23 History, 24 its list, 25 gathered, 26 Sink, 27 its list, 28 Barrier, 29 30 its rows; 31 the reference's object, 32 the answers' row, 33 the script -/
def InjA (A : Nat → Nat) : Prop := ∀ i j, i < 34 → j < 34 → A i = A j → i = j
theorem InjA.ne {A : Nat → Nat} (h : InjA A) {i j : Nat} (hi : i < 34) (hj : j < 34) (hij : i ≠ j) : A i ≠ A j := fun z => hij (h i j hi hj z)
theorem InjA.nm {A : Nat → Nat} (h : InjA A) {i : Nat} {js : List Nat} (hi : i < 34) (hj : ∀ j ∈ js, j < 34 ∧ j ≠ i) : A i ∉ js.map A := fun z => by
  obtain ⟨j, hj1, hj2⟩ := List.mem_map.mp z
  exact (hj j hj1).2 (h j i (hj j hj1).1 hi hj2)
abbrev V3 : Type := Int32 × Int32 × Int32
/-- Progress: offsets, taken, greatest, mark, history's length, dropped, pairs, windows -/
abbrev PG : Type := (Nat → Nat) × (Nat → Nat) × (Nat → Int32) × Int32 × Nat × Int32 × Int32 × List WT
abbrev gOf (P : PG) : Nat → Nat := P.1
abbrev gTk (P : PG) : Nat → Nat := P.2.1
abbrev gGr (P : PG) : Nat → Int32 := P.2.2.1
abbrev gMk (P : PG) : Int32 := P.2.2.2.1
abbrev gHl (P : PG) : Nat := P.2.2.2.2.1
abbrev gDr (P : PG) : Int32 := P.2.2.2.2.2.1
abbrev gPa (P : PG) : Int32 := P.2.2.2.2.2.2.1
abbrev gWi (P : PG) : List WT := P.2.2.2.2.2.2.2
/-- sources: events (time, key, value), slack, idle, the watermarks at which events were taken -/
abbrev SC : Type := (Nat → List V3) × (Nat → Int32) × (Nat → Int32) × (Nat → Nat → Int32)
abbrev sEv (c : SC) : Nat → List V3 := c.1
abbrev sSl (c : SC) : Nat → Int32 := c.2.1
abbrev sId (c : SC) : Nat → Int32 := c.2.2.1
abbrev sEm (c : SC) : Nat → Nat → Int32 := c.2.2.2
/-- history: events by source and offset, committed length and mark -/
abbrev HS : Type := List (Nat × Nat) × Nat × Int32
abbrev hL (h : HS) : List (Nat × Nat) := h.1
abbrev hC (h : HS) : Nat := h.2.1
abbrev hW (h : HS) : Int32 := h.2.2
/-- sink: records, committed, prepared -/
abbrev SK : Type := List WT × Nat × Nat
abbrev kL (k : SK) : List WT := k.1
abbrev kC (k : SK) : Nat := k.2.1
abbrev kP (k : SK) : Nat := k.2.2
/-- barrier: where, taken, under way -/
abbrev BS : Type := (Nat → Nat) × (Nat → Int32) × Int32
abbrev bA (b : BS) : Nat → Nat := b.1
abbrev bT (b : BS) : Nat → Int32 := b.2.1
abbrev bU (b : BS) : Int32 := b.2.2
/-- begun, snapshots, unconfirmed, workers -/
abbrev TP : Type := Int32 × Int32 × Int32 × Int32
abbrev tB (t : TP) : Int32 := t.1
abbrev tS (t : TP) : Int32 := t.2.1
abbrev tU (t : TP) : Int32 := t.2.2.1
abbrev tW (t : TP) : Int32 := t.2.2.2
abbrev XS : Type := (Nat → Int32) × SC × PG × PG × HS × SK × BS × TP
abbrev cJ (x : XS) : Nat → Int32 := x.1
abbrev cS (x : XS) : SC := x.2.1
abbrev cN (x : XS) : PG := x.2.2.1
abbrev cP (x : XS) : PG := x.2.2.2.1
abbrev cH (x : XS) : HS := x.2.2.2.2.1
abbrev cK (x : XS) : SK := x.2.2.2.2.2.1
abbrev cB (x : XS) : BS := x.2.2.2.2.2.2.1
abbrev cT (x : XS) : TP := x.2.2.2.2.2.2.2
/-! the object in the heap -/
def StR (G : GH) (o : Nat → Nat) (A : Nat → Nat) : Prop :=
  gT G (A 0) = 10 ∧ o (A 0) = A 0 ∧ gT G (A 1) = 4 ∧ o (A 1) = A 1 ∧ gR G 576 (A 0) = some (A 1) ∧ gR G 577 (A 0) = some (A 2) ∧ gR G 578 (A 0) = some (A 9) ∧ gR G 579 (A 0) = some (A 16) ∧ gR G 580 (A 0) = some (A 23) ∧ gR G 581 (A 0) = some (A 26) ∧ gR G 582 (A 0) = some (A 28)
def JbS (G : GH) (A : Nat → Nat) (jb : Nat → Int32) : Prop := ∀ k, k < 6 → gI G (192 + k) (A 1) = jb k
def TpS (G : GH) (A : Nat → Nat) (t : TP) : Prop := gI G 583 (A 0) = tB t ∧ gI G 584 (A 0) = tS t ∧ gI G 585 (A 0) = tU t ∧ gI G 586 (A 0) = tW t
def SoS (E : EV) (G : GH) (o A : Nat → Nat) (ea : Nat → List Nat) (sc : SC) (p : Nat) : Prop :=
  gT G (A 2) = 24 ∧ gN G (A 2) = 3 ∧ o (A 2) = A 2 ∧ (∀ s, s < 3 → gO G (A 2) s = some (A (3 + s)) ∧ gT G (A (3 + s)) = 7 ∧ o (A (3 + s)) = A (3 + s) ∧ gR G 384 (A (3 + s)) = some (A (6 + s)) ∧ gI G 385 (A (3 + s)) = sSl sc s ∧ gI G 386 (A (3 + s)) = sId sc s ∧ (ea s).length = (sEv sc s).length ∧ (ea s).length ≤ 40 ∧ (ea s).Nodup ∧ ∀ i e, (ea s)[i]? = some e → gT G e = 2 ∧ o e = e ∧ (∀ j, j < 34 → e ≠ A j) ∧ ∀ v, (sEv sc s)[i]? = some v → rE G e = (nI s, v.1, v.2.1, v.2.2, sEm sc s i)) ∧ ∃ c : Nat → Nat, (∀ s, s < 3 → LA E G o (A (6 + s)) (ea s) (c s)) ∧ p = c 0 + c 1 + c 2 + ((ea 0).length + (ea 1).length + (ea 2).length)
def PgS (E : EV) (G : GH) (o A : Nat → Nat) (b : Nat) (P : PG) (p : Nat) : Prop :=
  PrR G o (A b) (A (b + 1)) (A (b + 2)) (A (b + 3)) (A (b + 4)) ∧ (∀ s, s < 3 → gA G (A (b + 1)) s = nI (gOf P s) ∧ gA G (A (b + 2)) s = nI (gTk P s) ∧ gA G (A (b + 3)) s = gGr P s) ∧ gI G 259 (A b) = gMk P ∧ gI G 260 (A b) = nI (gHl P) ∧ gI G 261 (A b) = gDr P ∧ gI G 262 (A b) = gPa P ∧ ∃ rows spare, WsR E G o (A (b + 4)) (A (b + 5)) (A (b + 6)) rows spare p ∧ rows.map (rW G) = gWi P ∧ rows.length + spare.length ≤ 2000
def aOf (ea : Nat → List Nat) (x : Nat × Nat) : Nat := (ea x.1).getD x.2 0
def HiS (E : EV) (G : GH) (o A : Nat → Nat) (ea : Nat → List Nat) (h : HS) (p : Nat) : Prop :=
  HiR E G o (A 23) (A 24) (A 25) ((hL h).map (aOf ea)) (hC h) (hW h) p ∧ ∀ x ∈ hL h, x.1 < 3 ∧ x.2 < (ea x.1).length
def SiS (E : EV) (G : GH) (o A : Nat → Nat) (k : SK) (p : Nat) : Prop :=
  ∃ rows, SiR E G o (A 26) (A 27) rows (nI (kC k)) (nI (kP k)) (kL k).length p ∧ recs G rows (kL k).length = kL k ∧ rows.length ≤ 2900
def BaS (G : GH) (o A : Nat → Nat) (b : BS) : Prop :=
  BaR G o (A 28) (A 29) (A 30) ∧ (∀ s, s < 3 → gA G (A 29) s = nI (bA b s) ∧ gA G (A 30) s = bT b s) ∧ gI G 2 (A 28) = bU b
def StO (E : EV) (G : GH) (o A : Nat → Nat) (ea : Nat → List Nat) (x : XS) (p1 p2 p3 p4 p5 : Nat) : Prop :=
  Wf G ∧ StR G o A ∧ JbS G A (cJ x) ∧ TpS G A (cT x) ∧ BaS G o A (cB x) ∧ SoS E G o A ea (cS x) p1 ∧ PgS E G o A 9 (cN x) p2 ∧ PgS E G o A 16 (cP x) p3 ∧ HiS E G o A ea (cH x) p4 ∧ SiS E G o A (cK x) p5
def StS (E : EV) (G : GH) (o A : Nat → Nat) (x : XS) (p : Nat) : Prop :=
  ∃ ea p1 p2 p3 p4 p5, StO E G o A ea x p1 p2 p3 p4 p5 ∧ p = p1 + p2 + p3 + p4 + p5
/-! steps that are none of their business -/
section STP
variable {E : EV} {S : List Nat} {G G' : GH} {o o' A : Nat → Nat} {p b : Nat}
theorem StR.stp (h : StR G o A) (hw : Wf G) (s : Stq S G o G' o') (hR : ∀ f, gR G' f (A 0) = gR G f (A 0)) : StR G' o' A := by
  obtain ⟨a1, a2, a3, a4, b⟩ := h
  refine ⟨s.tg' hw a1 (by omega), (s.ow (hw _ (by omega))).trans a2, s.tg' hw a3 (by omega), (s.ow (hw _ (by omega))).trans a4, ?_⟩
  rw [hR, hR, hR, hR, hR, hR, hR]
  exact b
theorem StR.stp' (h : StR G o A) (hw : Wf G) (s : Stq S G o G' o') (h0 : A 0 ∉ S) : StR G' o' A :=
  h.stp hw s (fun f => (s.sm (hw _ (by rw [h.1]; omega)) (by rw [h.2.1]; exact h0)).2.2.2.1 f)
theorem JbS.stp {jb : Nat → Int32} (h : JbS G A jb) (hR : StR G o A) (hw : Wf G) (s : Stq S G o G' o') (h1 : A 1 ∉ S) : JbS G' A jb :=
  fun k hk => ((s.sm (hw _ (by rw [hR.2.2.1]; omega)) (by rw [hR.2.2.2.1]; exact h1)).2.2.1 _).trans (h k hk)
theorem TpS.stp {t : TP} (h : TpS G A t) (hR : StR G o A) (hw : Wf G) (s : Stq S G o G' o') (h1 : A 0 ∉ S) : TpS G' A t := by
  have q := (s.sm (hw _ (by rw [hR.1]; omega)) (by rw [hR.2.1]; exact h1)).2.2.1
  exact ⟨(q _).trans h.1, (q _).trans h.2.1, (q _).trans h.2.2.1, (q _).trans h.2.2.2⟩
theorem BaS.stp {t : BS} (h : BaS G o A t) (hw : Wf G) (s : Stq S G o G' o') (h1 : A 28 ∉ S) : BaS G' o' A t := by
  obtain ⟨h2, h3, h4⟩ := h
  have q := s.sm (hw (A 28) (by rw [h2.1]; omega)) (by rw [h2.2.1]; exact h1)
  have q1 := s.sm (hw (A 29) (by rw [h2.2.2.2.2.1.1]; omega)) (by rw [h2.2.2.2.2.1.2.2]; exact h1)
  have q2 := s.sm (hw (A 30) (by rw [h2.2.2.2.2.2.1]; omega)) (by rw [h2.2.2.2.2.2.2.2]; exact h1)
  exact ⟨h2.stp hw s q.2.2.2.1, fun j hj => ⟨(q1.2.2.2.2.1 j).trans (h3 j hj).1, (q2.2.2.2.2.1 j).trans (h3 j hj).2⟩, (q.2.2.1 _).trans h4⟩
theorem PgS.stp {P : PG} (h : PgS E G o A b P p) (hw : Wf G) (s : Stq S G o G' o') (h0 : A b ∉ S) (h1 : A (b + 4) ∉ S) (h2 : A (b + 5) ∉ S) (h3 : A (b + 6) ∉ S) : PgS E G' o' A b P p := by
  obtain ⟨a1, a2, a3, a4, a5, a6, rows, spare, a7, a8, a9⟩ := h
  have q := s.sm (hw (A b) (by rw [a1.1]; omega)) (by rw [a1.2.1]; exact h0)
  obtain ⟨b1, b2, b3, b4, b5, b6, b7, b8, b9, b10⟩ := id a1
  have q1 := s.sm (hw (A (b + 1)) (by rw [b7.1]; omega)) (by rw [b7.2.2]; exact h0)
  have q2 := s.sm (hw (A (b + 2)) (by rw [b8.1]; omega)) (by rw [b8.2.2]; exact h0)
  have q3 := s.sm (hw (A (b + 3)) (by rw [b9.1]; omega)) (by rw [b9.2.2]; exact h0)
  refine ⟨a1.stp hw s q.2.2.2.1, fun j hj => ⟨(q1.2.2.2.2.1 j).trans (a2 j hj).1, (q2.2.2.2.2.1 j).trans (a2 j hj).2.1, (q3.2.2.2.2.1 j).trans (a2 j hj).2.2⟩, (q.2.2.1 _).trans a3, (q.2.2.1 _).trans a4, (q.2.2.1 _).trans a5, (q.2.2.1 _).trans a6, rows, spare, a7.stp hw s h1 h2 h3, ?_, a9⟩
  exact ((a7.2.2.2.2.2.1.sub (List.sublist_append_left _ _)).map hw s h1).trans a8
theorem SiS.stp {k : SK} (h : SiS E G o A k p) (hw : Wf G) (s : Stq S G o G' o') (h0 : A 26 ∉ S) (h1 : A 27 ∉ S) : SiS E G' o' A k p := by
  obtain ⟨rows, a1, a2, a3⟩ := h
  exact ⟨rows, a1.stp hw s h0 h1, (a1.rec hw s h0 _).trans a2, a3⟩
theorem HiS.stp {k : HS} {ea : Nat → List Nat} (h : HiS E G o A ea k p) (hw : Wf G) (s : Stq S G o G' o') (h0 : A 23 ∉ S) (h1 : A 24 ∉ S) : HiS E G' o' A ea k p := ⟨h.1.stp hw s h0 h1, h.2⟩
theorem SoS.eo {ea : Nat → List Nat} {sc : SC} (h : SoS E G o A ea sc p) {s : Nat} (hs : s < 3) {e : Nat} (he : e ∈ ea s) {js : List Nat} (hj : ∀ j ∈ js, j < 34) : e ∉ js.map A := fun z => by
  obtain ⟨j, hj1, hj2⟩ := List.mem_map.mp z
  obtain ⟨i, hi, he'⟩ := List.getElem_of_mem he
  exact ((h.2.2.2.1 s hs).2.2.2.2.2.2.2.2.2 i e (by rw [List.getElem?_eq_getElem hi, he'])).2.2.1 j (hj j hj1) hj2.symm
theorem SoS.stp {ea : Nat → List Nat} {sc : SC} (h : SoS E G o A ea sc p) (hw : Wf G) (s : Stq S G o G' o') (h2 : A 2 ∉ S) (h3 : ∀ j, j < 3 → A (3 + j) ∉ S ∧ A (6 + j) ∉ S) (he : ∀ j, j < 3 → ∀ e ∈ ea j, e ∉ S) : SoS E G' o' A ea sc p := by
  obtain ⟨a1, a2, a3, a4, c, a5, a6⟩ := h
  have q := s.sm (hw (A 2) (by rw [a1]; omega)) (by rw [a3]; exact h2)
  refine ⟨q.1.trans a1, q.2.1.trans a2, (s.ow (hw (A 2) (by rw [a1]; omega))).trans a3, fun j hj => ?_, c, fun j hj => (a5 j hj).stp hw s (h3 j hj).2, a6⟩
  obtain ⟨b1, b2, b3, b4, b5, b6, b7, b8, b9, b10⟩ := a4 j hj
  have z := hw (A (3 + j)) (by rw [b2]; omega)
  have r := s.sm z (by rw [b3]; exact (h3 j hj).1)
  refine ⟨(q.2.2.2.2.2.1 j).trans b1, r.1.trans b2, (s.ow z).trans b3, (r.2.2.2.1 _).trans b4, (r.2.2.1 _).trans b5, (r.2.2.1 _).trans b6, b7, b8, b9, fun i e hi => ?_⟩
  obtain ⟨c1, c2, c3, c4⟩ := b10 i e hi
  have z2 := hw e (by rw [c1]; omega)
  have r2 := s.sm z2 (by rw [c2]; exact he j hj e (List.mem_of_getElem? hi))
  exact ⟨r2.1.trans c1, (s.ow z2).trans c2, c3, fun v hv => (rE_sm r2).trans (c4 v hv)⟩
end STP
theorem ne20 {x : Nat} (h : x = 20) : x ≠ 0 := by omega
/-- the watermark's look -/
def mkfP (P : PG) (sc : SC) (s : Nat) : Int32 := if (-1 : Int32) < gGr P s - sSl sc s then gGr P s - sSl sc s else -1
def lkM (x : XS) : Int32 := lwM (gMk (cN x)) (lwA (sId (cS x)) (mkfP (cN x) (cS x)) 3 0 0 (-1))
def lookS (x : XS) : XS := (cJ x, cS x, (gOf (cN x), gTk (cN x), gGr (cN x), lkM x, gHl (cN x), gDr (cN x), gPa (cN x), emW (lkM x) (gWi (cN x))), cP x, cH x, (kL (cK x) ++ emR (lkM x) (gWi (cN x)), kC (cK x), kP (cK x)), cB x, cT x)
theorem emR_len (mk : Int32) : ∀ L : List WT, (emR mk L).length ≤ L.length
  | [] => Nat.le_refl _
  | w :: L => by
    have h := emR_len mk L
    unfold emR
    by_cases c : wE w ≤ mk
    · rw [if_pos c]
      by_cases c2 : wO w = 0
      · rw [if_pos c2]; simp; exact h
      · rw [if_neg c2]; simp; omega
    · rw [if_neg c]; simp
theorem emW_len (mk : Int32) : ∀ L : List WT, (emW mk L).length = L.length
  | [] => rfl
  | w :: L => by
    have h := emW_len mk L
    unfold emW
    by_cases c : wE w ≤ mk
    · rw [if_pos c]; simp [h]
    · rw [if_neg c]
theorem InjA.nj {A : Nat → Nat} (h : InjA A) {i : Nat} {js : List Nat} (hi : i < 34) (hj : ∀ j ∈ js, j < 34) (hn : i ∉ js) : A i ∉ js.map A :=
  h.nm hi (fun j hj' => ⟨hj j hj', fun z => hn (z ▸ hj')⟩)
/-- what a step leaves as it is -/
theorem StO.fr {E : EV} {G G' : GH} {o o' A : Nat → Nat} {ea : Nat → List Nat} {x : XS} {p1 p2 p3 p4 p5 : Nat} {js : List Nat} (hA : InjA A) (h : StO E G o A ea x p1 p2 p3 p4 p5) (s : Stq (js.map A) G o G' o') (hj : ∀ j ∈ js, j < 34) :
    (0 ∉ js → StR G' o' A ∧ TpS G' A (cT x)) ∧ (1 ∉ js → JbS G' A (cJ x)) ∧ (28 ∉ js → BaS G' o' A (cB x)) ∧ ((∀ j ∈ [2, 3, 4, 5, 6, 7, 8], j ∉ js) → SoS E G' o' A ea (cS x) p1) ∧ ((∀ j ∈ [9, 13, 14, 15], j ∉ js) → PgS E G' o' A 9 (cN x) p2) ∧ ((∀ j ∈ [16, 20, 21, 22], j ∉ js) → PgS E G' o' A 16 (cP x) p3) ∧ ((∀ j ∈ [23, 24], j ∉ js) → HiS E G' o' A ea (cH x) p4) ∧ ((∀ j ∈ [26, 27], j ∉ js) → SiS E G' o' A (cK x) p5) := by
  obtain ⟨hw, hR, hJ, hT, hB, hSo, hPg, hPs, hHi, hSi⟩ := h
  have n : ∀ i, i < 34 → i ∉ js → A i ∉ js.map A := fun i hi hn => hA.nj hi hj hn
  refine ⟨fun z => ⟨hR.stp' hw s (n 0 (by omega) z), hT.stp hR hw s (n 0 (by omega) z)⟩, fun z => hJ.stp hR hw s (n 1 (by omega) z), fun z => hB.stp hw s (n 28 (by omega) z), fun z => hSo.stp hw s (n 2 (by omega) (z 2 (by decide))) (fun j hj => ?_) (fun j hj' e he => hSo.eo hj' he hj), fun z => hPg.stp hw s (n 9 (by omega) (z 9 (by decide))) (n 13 (by omega) (z 13 (by decide))) (n 14 (by omega) (z 14 (by decide))) (n 15 (by omega) (z 15 (by decide))), fun z => hPs.stp hw s (n 16 (by omega) (z 16 (by decide))) (n 20 (by omega) (z 20 (by decide))) (n 21 (by omega) (z 21 (by decide))) (n 22 (by omega) (z 22 (by decide))), fun z => hHi.stp hw s (n 23 (by omega) (z 23 (by decide))) (n 24 (by omega) (z 24 (by decide))), fun z => hSi.stp hw s (n 26 (by omega) (z 26 (by decide))) (n 27 (by omega) (z 27 (by decide)))⟩
  have c : j = 0 ∨ j = 1 ∨ j = 2 := by omega
  rcases c with c | c | c <;> subst c
  · exact ⟨n 3 (by omega) (z 3 (by decide)), n 6 (by omega) (z 6 (by decide))⟩
  · exact ⟨n 4 (by omega) (z 4 (by decide)), n 7 (by omega) (z 7 (by decide))⟩
  · exact ⟨n 5 (by omega) (z 5 (by decide)), n 8 (by omega) (z 8 (by decide))⟩
theorem c_lookS {E : EV} {G : GH} {Post : Res → GH → Prop} {o A : Nat → Nat} {x : XS} {p : Nat} (hA : InjA A) (h : StS E G o A x p) (hn : (kL (cK x)).length + (gWi (cN x)).length ≤ 2900)
    (k : ∀ G' o' p', StS E G' o' A (lookS x) p' → Stq ([9, 13, 26, 27].map A) G o G' o' → Cs G p G' p' → Post (.inl none) G') : Cl E 9 m_St_lookAtWatermark [.ref (A 0)] G Post := by
  obtain ⟨ea, p1, p2, p3, p4, p5, h, hp⟩ := h
  obtain ⟨hw, hR, hJ, hT, hB, hSo, hPg, hPs, hHi, hSi⟩ := id h
  obtain ⟨a1, a2, a3, a4, a5, a6, rows, spare, a7, a8, a9⟩ := id hPg
  obtain ⟨srw, b1, b2, b3⟩ := id hSi
  obtain ⟨r1, r2, r3, r4, r5, r6, r7, r8, r9, r10, r11⟩ := id hR
  have hlen : rows.length = (gWi (cN x)).length := by rw [← a8]; simp
  refine c_look (sc := fun s => A (3 + s)) (idl := sId (cS x)) (mkf := mkfP (cN x) (cS x)) (mk := lkM x) r1 r6 hSo.1 hSo.2.1 (fun s hs => ⟨(hSo.2.2.2.1 s hs).1, (hSo.2.2.2.1 s hs).2.1, (hSo.2.2.2.1 s hs).2.2.2.2.2.1⟩) r7 a1.1 a1.2.1 a1.2.2.2.2.1 a1.2.2.2.2.2.1 r10 a1.2.2.2.2.2.2.2.2.1.1 a1.2.2.2.2.2.2.2.2.1.2.1 (fun s hs => ?_) a7 b1 hw ⟨hA.ne (by omega) (by omega) (by omega), hA.ne (by omega) (by omega) (by omega), hA.ne (by omega) (by omega) (by omega), hA.ne (by omega) (by omega) (by omega), hA.ne (by omega) (by omega) (by omega), hA.ne (by omega) (by omega) (by omega)⟩ (hA.nm (i := 9) (js := [13, 14, 15, 26, 27]) (by omega) (by decide)) (by omega) (by omega) (by rw [a3]; rfl) (fun G' o' q' n' srw' y1 y2 y3 y4 y5 y6 y7 y8 y9 y10 y11 y12 y13 => ?_)
  · rw [(a2 s hs).2.2, (hSo.2.2.2.1 s hs).2.2.2.2.1]; rfl
  have s9 : Stq ([9, 13, 26, 27].map A) G o G' o' := y8
  have hl2 := emR_len (lkM x) (gWi (cN x))
  have hn' : n' = (kL (cK x) ++ emR (lkM x) (gWi (cN x))).length := by
    have e := congrArg List.length y4
    rw [recs_len y2.2.2.2.2.2.2.1, b2, a8] at e
    exact e
  have hn'' : n' ≤ 2900 := by rw [hn', List.length_append]; omega
  have f := h.fr hA s9 (by decide)
  have qa : ∀ b, b < 34 → b ≠ 9 → gT G (A b) ≠ 0 → o (A b) = A 9 → Sm G G' (A b) := fun b hb hb9 h0 ho => y13 _ (hw _ h0) (hA.ne hb (by omega) hb9) (by rw [ho]; exact hA.nm (i := 9) (js := [13, 26, 27]) (by omega) (by decide))
  refine k G' o' (p1 + p2 + p3 + p4 + q') ⟨ea, p1, p2, p3, p4, q', ⟨y8.wf, (f.1 (by decide)).1, f.2.1 (by decide), (f.1 (by decide)).2, f.2.2.1 (by decide), f.2.2.2.1 (by decide), ?_, f.2.2.2.2.2.1 (by decide), f.2.2.2.2.2.2.1 (by decide), srw', hn' ▸ y2, (show recs G' srw' (kL (cK x) ++ emR (lkM x) (gWi (cN x))).length = kL (cK x) ++ emR (lkM x) (gWi (cN x)) from by rw [← hn', y4, b2, a8]), by omega⟩, rfl⟩ s9 (y9.up (by omega))
  exact ⟨a1.stp hw s9 y7, fun j hj => ⟨((qa 10 (by omega) (by omega) (ne20 a1.2.2.2.2.2.2.1.1) a1.2.2.2.2.2.2.1.2.2).2.2.2.2.1 j).trans (a2 j hj).1, ((qa 11 (by omega) (by omega) (ne20 a1.2.2.2.2.2.2.2.1.1) a1.2.2.2.2.2.2.2.1.2.2).2.2.2.2.1 j).trans (a2 j hj).2.1, ((qa 12 (by omega) (by omega) (ne20 a1.2.2.2.2.2.2.2.2.1.1) a1.2.2.2.2.2.2.2.2.1.2.2).2.2.2.2.1 j).trans (a2 j hj).2.2⟩, y5, (y6 260 (by decide)).trans a4, (y6 261 (by decide)).trans a5, (y6 262 (by decide)).trans a6, rows, spare, y1, by rw [y3, a8]; rfl, a9⟩
