/-! p25: the law's world; questions of the class -/
section LAW25
variable {E : EV} {G : GH} {Post : Res → GH → Prop} {o A : Nat → Nat} {x : XS} {p : Nat}
/-- a step of the law's own rows -/
theorem StS.ot {G' : GH} {o' : Nat → Nat} {js : List Nat} (hA : InjA A) (h : StS E G o A x p) (s : Stq (js.map A) G o G' o') (hj : ∀ j ∈ js, j < 34 ∧ 31 ≤ j) : StS E G' o' A x p := by
  obtain ⟨ea, p1, p2, p3, p4, p5, h, hp⟩ := h
  have n : ∀ i, i < 31 → i ∉ js := fun i hi z => by have := hj i z; omega
  have f := h.fr hA s (fun j hj' => (hj j hj').1)
  exact ⟨ea, p1, p2, p3, p4, p5, ⟨s.wf, (f.1 (n 0 (by omega))).1, f.2.1 (n 1 (by omega)), (f.1 (n 0 (by omega))).2, f.2.2.1 (n 28 (by omega)), f.2.2.2.1 (fun j hj' => n j (by simp at hj'; omega)), f.2.2.2.2.1 (fun j hj' => n j (by simp at hj'; omega)), f.2.2.2.2.2.1 (fun j hj' => n j (by simp at hj'; omega)), f.2.2.2.2.2.2.1 (fun j hj' => n j (by simp at hj'; omega)), f.2.2.2.2.2.2.2 (fun j hj' => n j (by simp at hj'; omega))⟩, hp⟩
theorem StS.tg0 (h : StS E G o A x p) : gT G (A 0) = 10 := by
  obtain ⟨ea, p1, p2, p3, p4, p5, h, -⟩ := h
  exact h.2.1.1
theorem StS.pb (h : StS E G o A x p) : p ≤ 62000 := by
  obtain ⟨ea, p1, p2, p3, p4, p5, ⟨-, -, -, -, -, hSo, hPg, hPs, hHi, hSi⟩, hp⟩ := h
  have la : ∀ {l c : Nat} {xs : List Nat}, LA E G o l xs c → c ≤ 6000 := fun h => by
    obtain ⟨e, h⟩ := h
    exact h.2.2.2.2.2.1
  have b1 : p1 ≤ 18120 := by
    obtain ⟨-, -, -, h4, c, h5, h6⟩ := hSo
    have l0 := la (h5 0 (by omega))
    have l1 := la (h5 1 (by omega))
    have l2 := la (h5 2 (by omega))
    have n0 := (h4 0 (by omega)).2.2.2.2.2.2.2.1
    have n1 := (h4 1 (by omega)).2.2.2.2.2.2.2.1
    have n2 := (h4 2 (by omega)).2.2.2.2.2.2.2.1
    omega
  have pg : ∀ {b q : Nat} {P : PG}, PgS E G o A b P q → q ≤ 14000 := fun h => by
    obtain ⟨-, -, -, -, -, -, rows, spare, ⟨-, -, -, -, -, -, cr, cp, h1, h2, h3⟩, -, h4⟩ := h
    have := la h1
    have := la h2
    omega
  have b2 := pg hPg
  have b3 := pg hPs
  have b4 : p4 ≤ 6000 := la hHi.1.2.2.2.2.2.2.2.2.2.1
  have b5 : p5 ≤ 8900 := by
    obtain ⟨rows, ⟨-, -, -, -, -, -, -, -, -, c, h1, h2⟩, -, h3⟩ := hSi
    have := la h1
    omega
  omega
theorem a_watermark (h : StS E G o A x p) : AK E 1 m_St_watermark [.ref (A 0)] G (gMk (cN x)) := fun Post hk => by
  obtain ⟨ea, p1, p2, p3, p4, p5, ⟨hw, hR, hJ, hT, hB, hSo, hPg, hPs, hHi, hSi⟩, hp⟩ := h
  refine j_enter (L := [some (.ref (A 0))]) me_St_watermark (cat_c rfl cat_n) (Nat.le_of_ble_eq_true rfl) rfl (wp_St_watermark_0 (A 0) ⟨hR.1, A 9, hR.2.2.2.2.2.2.1, hPg.1.1, ?_⟩)
  rw [hPg.2.2.1]
  exact hk
theorem a_dropped (h : StS E G o A x p) : AK E 1 m_St_dropped [.ref (A 0)] G (gDr (cN x)) := fun Post hk => by
  obtain ⟨ea, p1, p2, p3, p4, p5, ⟨hw, hR, hJ, hT, hB, hSo, hPg, hPs, hHi, hSi⟩, hp⟩ := h
  refine j_enter (L := [some (.ref (A 0))]) me_St_dropped (cat_c rfl cat_n) (Nat.le_of_ble_eq_true rfl) rfl (wp_St_dropped_0 (A 0) ⟨hR.1, A 9, hR.2.2.2.2.2.2.1, hPg.1.1, ?_⟩)
  rw [hPg.2.2.2.2.1]
  exact hk
theorem a_pairs (h : StS E G o A x p) : AK E 1 m_St_pairs [.ref (A 0)] G (gPa (cN x)) := fun Post hk => by
  obtain ⟨ea, p1, p2, p3, p4, p5, ⟨hw, hR, hJ, hT, hB, hSo, hPg, hPs, hHi, hSi⟩, hp⟩ := h
  refine j_enter (L := [some (.ref (A 0))]) me_St_pairs (cat_c rfl cat_n) (Nat.le_of_ble_eq_true rfl) rfl (wp_St_pairs_0 (A 0) ⟨hR.1, A 9, hR.2.2.2.2.2.2.1, hPg.1.1, ?_⟩)
  rw [hPg.2.2.2.2.2.1]
  exact hk
theorem a_pairsAnew (h : StS E G o A x p) : AK E 5 m_St_pairsAnew [.ref (A 0)] G (cntA (cJ x 4) 0 [] ((hL (cH x)).map (hE (cS x)))) := fun Post hk => by
  obtain ⟨ea, p1, p2, p3, p4, p5, ⟨hw, hR, hJ, hT, hB, hSo, hPg, hPs, hHi, hSi⟩, hp⟩ := h
  refine j_enter (L := [some (.ref (A 0))]) me_St_pairsAnew (cat_c rfl cat_n) (Nat.le_of_ble_eq_true rfl) rfl (wp_St_pairsAnew_0 (A 0) ⟨hR.1, A 23, hR.2.2.2.2.2.2.2.2.1, A 1, hR.2.2.2.2.1, hR.2.2.1, hHi.1.1, ?_⟩)
  rw [show gI G 196 (A 1) = cJ x 4 from hJ 4 (by omega)]
  refine c_countPairs hHi.1 (wp_St_pairsAnew_14 _ ?_)
  rw [hist_map hSo hHi]
  exact hk
def uncV (x : XS) : Int32 := nI (kL (cK x)).length - nI (kC (cK x))
theorem a_uncommitted (h : StS E G o A x p) : AK E 1 m_St_uncommitted [.ref (A 0)] G (uncV x) := fun Post hk => by
  obtain ⟨ea, p1, p2, p3, p4, p5, ⟨hw, hR, hJ, hT, hB, hSo, hPg, hPs, hHi, hSi⟩, hp⟩ := h
  obtain ⟨rows, d1, d2, d3⟩ := hSi
  refine j_enter (L := [some (.ref (A 0))]) me_St_uncommitted (cat_c rfl cat_n) (Nat.le_of_ble_eq_true rfl) rfl (wp_St_uncommitted_0 (A 0) ⟨hR.1, A 26, hR.2.2.2.2.2.2.2.2.2.1, d1.1, ?_⟩)
  rw [d1.2.2.2.2.2.1, d1.2.2.2.1]
  exact hk
theorem a_sourceWatermark {s : Nat} (hs : s < 3) (h : StS E G o A x p) : AK E 2 m_St_sourceWatermark [.ref (A 0), .int (nI s)] G (mkfP (cN x) (cS x) s) := fun Post hk => by
  obtain ⟨ea, p1, p2, p3, p4, p5, ⟨hw, hR, hJ, hT, hB, hSo, hPg, hPs, hHi, hSi⟩, hp⟩ := h
  refine j_enter (L := [some (.ref (A 0)), some (.int (nI s))]) me_St_sourceWatermark (cat_c rfl (cat_c rfl cat_n)) (Nat.le_of_ble_eq_true rfl) rfl (wp_St_sourceWatermark_0 (A 0) (nI s) (src3 (fun hq => absurd (by rw [sIx_n hs]; exact hs) hq) (fun s' hs' hq hx => ?_)))
  rw [sIx_n hs] at hx
  subst hx
  have a12 := hPg.1.2.2.2.2.2.2.2.2.1
  have so := hSo.2.2.2.1 s hs
  refine ⟨hR.1, A 9, hR.2.2.2.2.2.2.1, hPg.1.1, A 12, hPg.1.2.2.2.2.1, Or.inl a12.1, s, ix3 hs a12.2.1, A 2, hR.2.2.2.2.2.1, Or.inr hSo.1, s, ix3 hs hSo.2.1, A (3 + s), so.1, so.2.1, ?_⟩
  have e1 : gA G (A 12) s = gGr (cN x) s := (hPg.2.1 s hs).2.2
  rw [e1, so.2.2.2.2.1]
  exact hk
theorem a_offset {s : Nat} (hs : s < 3) (h : StS E G o A x p) : AK E 2 m_St_offset [.ref (A 0), .int (nI s)] G (nI (gOf (cN x) s)) := fun Post hk => by
  obtain ⟨ea, p1, p2, p3, p4, p5, ⟨hw, hR, hJ, hT, hB, hSo, hPg, hPs, hHi, hSi⟩, hp⟩ := h
  refine j_enter (L := [some (.ref (A 0)), some (.int (nI s))]) me_St_offset (cat_c rfl (cat_c rfl cat_n)) (Nat.le_of_ble_eq_true rfl) rfl (wp_St_offset_0 (A 0) (nI s) (src3 (fun hq => absurd (by rw [sIx_n hs]; exact hs) hq) (fun s' hs' hq hx => ?_)))
  rw [sIx_n hs] at hx
  subst hx
  have a10 := hPg.1.2.2.2.2.2.2.1
  refine ⟨hR.1, A 9, hR.2.2.2.2.2.2.1, hPg.1.1, A 10, hPg.1.2.2.1, Or.inl a10.1, s, ix3 hs a10.2.1, ?_⟩
  have e1 : gA G (A 10) s = nI (gOf (cN x) s) := (hPg.2.1 s hs).1
  rw [e1]
  exact hk
theorem a_inChannel {s : Nat} (hs : s < 3) (h : StS E G o A x p) : AK E 2 m_St_inChannel [.ref (A 0), .int (nI s)] G (nI (gOf (cN x) s) - nI (gTk (cN x) s)) := fun Post hk => by
  obtain ⟨ea, p1, p2, p3, p4, p5, ⟨hw, hR, hJ, hT, hB, hSo, hPg, hPs, hHi, hSi⟩, hp⟩ := h
  refine j_enter (L := [some (.ref (A 0)), some (.int (nI s))]) me_St_inChannel (cat_c rfl (cat_c rfl cat_n)) (Nat.le_of_ble_eq_true rfl) rfl (wp_St_inChannel_0 (A 0) (nI s) (src3 (fun hq => absurd (by rw [sIx_n hs]; exact hs) hq) (fun s' hs' hq hx => ?_)))
  rw [sIx_n hs] at hx
  subst hx
  have a10 := hPg.1.2.2.2.2.2.2.1
  have a11 := hPg.1.2.2.2.2.2.2.2.1
  refine ⟨hR.1, A 9, hR.2.2.2.2.2.2.1, hPg.1.1, A 10, hPg.1.2.2.1, Or.inl a10.1, s, ix3 hs a10.2.1, A 11, hPg.1.2.2.2.1, Or.inl a11.1, s, ix3 hs a11.2.1, ?_⟩
  have e1 : gA G (A 10) s = nI (gOf (cN x) s) := (hPg.2.1 s hs).1
  have e2 : gA G (A 11) s = nI (gTk (cN x) s) := (hPg.2.1 s hs).2.1
  rw [e1, e2]
  exact hk
/-- the law's world: the object, how many were appended, who is idle, the script -/
def LQ (E : EV) (N : Nat) (G : GH) (o A : Nat → Nat) (x : XS) (p : Nat) (m d : Nat → Int32) : Prop :=
  StS E G o A x p ∧ (gT G (A 31) = 20 ∧ gN G (A 31) = 3 ∧ o (A 31) = A 31 ∧ ∀ s, s < 3 → gA G (A 31) s = m s) ∧ (gT G (A 32) = 20 ∧ gN G (A 32) = 3 ∧ o (A 32) = A 32 ∧ ∀ s, s < 3 → gA G (A 32) s = d s) ∧ ((gT G (A 33) = 20 ∨ gT G (A 33) = 25) ∧ gN G (A 33) = N ∧ o (A 33) = A 33) ∧ ∀ j, j < 34 → A j < gz G
theorem LQ.cls {N : Nat} {m d : Nat → Int32} {G' : GH} {o' : Nat → Nat} {x' : XS} {p' : Nat} (h : LQ E N G o A x p m d) (y1 : StS E G' o' A x' p') (y2 : FrC A G o G' o') : LQ E N G' o' A x' p' m d := by
  obtain ⟨h1, ⟨a1, a2, a3, a4⟩, ⟨b1, b2, b3, b4⟩, ⟨c1, c2, c3⟩, h5⟩ := h
  obtain ⟨S, hS, s⟩ := y2
  have qa := s.sm (h5 31 (by omega)) (by rw [a3]; exact hS 31 (by simp))
  have qb := s.sm (h5 32 (by omega)) (by rw [b3]; exact hS 32 (by simp))
  have qc := s.sm (h5 33 (by omega)) (by rw [c3]; exact hS 33 (by simp))
  refine ⟨y1, ⟨qa.1.trans a1, qa.2.1.trans a2, (s.ow (h5 31 (by omega))).trans a3, fun i hi => (qa.2.2.2.2.1 i).trans (a4 i hi)⟩, ⟨qb.1.trans b1, qb.2.1.trans b2, (s.ow (h5 32 (by omega))).trans b3, fun i hi => (qb.2.2.2.2.1 i).trans (b4 i hi)⟩, ⟨?_, qc.2.1.trans c2, (s.ow (h5 33 (by omega))).trans c3⟩, fun j hj => Nat.lt_of_lt_of_le (h5 j hj) s.le⟩
  rw [qc.1]; exact c1
theorem LQ.many {N : Nat} {m d : Nat → Int32} (hA : InjA A) (h : LQ E N G o A x p m d) {s : Nat} {v : Int32} : LQ E N (sA G (A 31) s v) o A x p (up1 m s v) d := by
  obtain ⟨h1, ⟨a1, a2, a3, a4⟩, ⟨b1, b2, b3, b4⟩, ⟨c1, c2, c3⟩, h5⟩ := h
  have s2 : Stq ([31].map A) G o (sA G (A 31) s v) o := (Stq.rf h1.wf).wA (fun _ => by rw [a3]; exact in1)
  refine ⟨h1.ot hA s2 (by decide), ⟨a1, a2, a3, fun i hi => ?_⟩, ⟨b1, b2, b3, fun i hi => ?_⟩, ⟨c1, c2, c3⟩, h5⟩
  · rw [gA_sA]
    show _ = if i = s then v else m i
    by_cases c : i = s
    · rw [if_pos ⟨rfl, c⟩, if_pos c]
    · rw [if_neg (fun z => c z.2), if_neg c]; exact a4 i hi
  · rw [gA_sA, if_neg (fun z => hA.ne (by omega) (by omega) (by omega) z.1)]; exact b4 i hi
theorem LQ.idle {N : Nat} {m d : Nat → Int32} (hA : InjA A) (h : LQ E N G o A x p m d) {s : Nat} {v : Int32} : LQ E N (sA G (A 32) s v) o A x p m (up1 d s v) := by
  obtain ⟨h1, ⟨a1, a2, a3, a4⟩, ⟨b1, b2, b3, b4⟩, ⟨c1, c2, c3⟩, h5⟩ := h
  have s2 : Stq ([32].map A) G o (sA G (A 32) s v) o := (Stq.rf h1.wf).wA (fun _ => by rw [b3]; exact in1)
  refine ⟨h1.ot hA s2 (by decide), ⟨a1, a2, a3, fun i hi => ?_⟩, ⟨b1, b2, b3, fun i hi => ?_⟩, ⟨c1, c2, c3⟩, h5⟩
  · rw [gA_sA, if_neg (fun z => hA.ne (by omega) (by omega) (by omega) z.1)]; exact a4 i hi
  · rw [gA_sA]
    show _ = if i = s then v else d i
    by_cases c : i = s
    · rw [if_pos ⟨rfl, c⟩, if_pos c]
    · rw [if_neg (fun z => c z.2), if_neg c]; exact b4 i hi
end LAW25
