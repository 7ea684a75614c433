/-- an int row of three -/
def A3 (G : GH) (o : Nat → Nat) (r a : Nat) : Prop := gT G a = 20 ∧ gN G a = 3 ∧ o a = r
theorem A3.stp {S : List Nat} {G G' : GH} {o o' : Nat → Nat} {r a : Nat} (h : A3 G o r a) (hw : Wf G) (s : Stq S G o G' o') : A3 G' o' r a := by
  have hz := hw a (by rw [h.1]; omega)
  exact ⟨(s.tg hz).trans h.1, (s.ln hz).trans h.2.1, (s.ow hz).trans h.2.2⟩
/-- the object Progress and its rows -/
def PrR (G : GH) (o : Nat → Nat) (pg ao tk ag ws : Nat) : Prop :=
  gT G pg = 5 ∧ o pg = pg ∧ gR G 256 pg = some ao ∧ gR G 257 pg = some tk ∧ gR G 258 pg = some ag ∧ gR G 263 pg = some ws ∧ A3 G o pg ao ∧ A3 G o pg tk ∧ A3 G o pg ag ∧ ao ≠ tk ∧ ao ≠ ag ∧ tk ≠ ag
theorem PrR.stp {S : List Nat} {G G' : GH} {o o' : Nat → Nat} {pg ao tk ag ws : Nat} (h : PrR G o pg ao tk ag ws) (hw : Wf G) (s : Stq S G o G' o') (hR : ∀ f, gR G' f pg = gR G f pg) : PrR G' o' pg ao tk ag ws := by
  obtain ⟨a1, a2, a3, a4, a5, a6, a7, a8, a9, b⟩ := h
  have hz := hw pg (by omega)
  exact ⟨(s.tg hz).trans a1, (s.ow hz).trans a2, (hR _).trans a3, (hR _).trans a4, (hR _).trans a5, (hR _).trans a6, a7.stp hw s, a8.stp hw s, a9.stp hw s, b⟩
/-- only cells of int rows differ -/
def OnA (G G' : GH) : Prop := (∀ q, gT G' q = gT G q) ∧ (∀ q, gN G' q = gN G q) ∧ (∀ f q, gI G' f q = gI G f q) ∧ (∀ f q, gR G' f q = gR G f q) ∧ gz G' = gz G ∧ gs G' = gs G
theorem c_pr_loop {E : EV} {Post : Res → GH → Prop} {pa ao tk ag wa pb bo bt bg wb : Nat} {G0 : GH} {o : Nat → Nat} (hA : PrR G0 o pa ao tk ag wa) (hB : PrR G0 o pb bo bt bg wb) (hne : pa ≠ pb) (hw : Wf G0)
    (k : ∀ G1, OnA G0 G1 → Stq [pa] G0 o G1 o → (∀ j, j < 3 → gA G1 ao j = gA G0 bo j ∧ gA G1 tk j = gA G0 bt j ∧ gA G1 ag j = gA G0 bg j) → J E 8 m_Pr_copyFrom 2 [some (.ref pa), some (.ref pb), some (.int 3)] [] G1 Post) :
    ∀ (m i : Nat) (G : GH), m + i = 3 → OnA G0 G → Stq [pa] G0 o G o → (∀ j, j < i → gA G ao j = gA G0 bo j ∧ gA G tk j = gA G0 bt j ∧ gA G ag j = gA G0 bg j) → J E 8 m_Pr_copyFrom 2 [some (.ref pa), some (.ref pb), some (.int (nI i))] [] G Post := by
  intro m
  obtain ⟨a1, a2, a3, a4, a5, a6, a7, a8, a9, a10, a11, a12⟩ := id hA
  obtain ⟨b1, b2, b3, b4, b5, b6, b7, b8, b9, b10, b11, b12⟩ := id hB
  have ne : ∀ x y, o x = pa → o y = pb → y ≠ x := fun x y hx hy z => hne (by rw [← hx, ← z, hy])
  induction m with
  | zero =>
    intro i G hmi hO hS hJ
    have e : i = 3 := by omega
    rw [e] at hJ ⊢
    exact k G hO hS hJ
  | succ m ih =>
    intro i G hmi hO hS hJ
    obtain ⟨o1, o2, o3, o4, o5, o6⟩ := id hO
    have i3 : i < 3 := by omega
    refine wp_Pr_copyFrom_2 pa pb (nI i) ⟨fun z => absurd z (show ¬ (3 : Int32) ≤ nI i from nI_ge (b := 3) (by omega) (by omega)), fun _ => ⟨(o1 _).trans a1, ao, (o4 _ _).trans a3, (o1 _).trans b1, bo, (o4 _ _).trans b3, Or.inl ((o1 _).trans b7.1), i, IX.nI (by rw [o2, b7.2.1]; exact i3) (by rw [o2, b7.2.1]; omega), (o1 _).trans a7.1, i, IX.nI (by rw [o2, a7.2.1]; exact i3) (by rw [o2, a7.2.1]; omega), tk, (o4 _ _).trans a4, bt, (o4 _ _).trans b4, Or.inl ((o1 _).trans b8.1), i, IX.nI (by rw [o2, b8.2.1]; exact i3) (by rw [o2, b8.2.1]; omega), (o1 _).trans a8.1, i, IX.nI (by rw [o2, a8.2.1]; exact i3) (by rw [o2, a8.2.1]; omega), ag, (o4 _ _).trans a5, bg, (o4 _ _).trans b5, Or.inl ((o1 _).trans b9.1), i, IX.nI (by rw [o2, b9.2.1]; exact i3) (by rw [o2, b9.2.1]; omega), (o1 _).trans a9.1, i, IX.nI (by rw [o2, a9.2.1]; exact i3) (by rw [o2, a9.2.1]; omega), fun G42 h42 => ?_⟩⟩
    rw [nI_1]
    have sB : ∀ b, o b = pb → b < gz G0 → ∀ j, gA G b j = gA G0 b j := fun b hb hz j => (hS.sm hz (by rw [hb, List.mem_singleton]; exact fun z => hne z.symm)).2.2.2.2.1 j
    have zb : bo < gz G0 ∧ bt < gz G0 ∧ bg < gz G0 := ⟨hw _ (by rw [b7.1]; omega), hw _ (by rw [b8.1]; omega), hw _ (by rw [b9.1]; omega)⟩
    have m1 : ao < gz G0 → o ao ∈ [pa] := fun _ => by rw [a7.2.2]; exact in1
    have m2 : tk < gz G0 → o tk ∈ [pa] := fun _ => by rw [a8.2.2]; exact in1
    have m3 : ag < gz G0 → o ag ∈ [pa] := fun _ => by rw [a9.2.2]; exact in1
    have v1 : gA (sA G ao i (gA G bo i)) bt i = gA G bt i := by rw [gA_sA, if_neg (fun z => ne ao bt a7.2.2 b8.2.2 z.1)]
    have v2 : gA (sA (sA G ao i (gA G bo i)) tk i (gA (sA G ao i (gA G bo i)) bt i)) bg i = gA G bg i := by rw [gA_sA, if_neg (fun z => ne tk bg a8.2.2 b9.2.2 z.1), gA_sA, if_neg (fun z => ne ao bg a7.2.2 b9.2.2 z.1)]
    rw [v2, v1] at h42
    refine ih (i + 1) G42 (by omega) ?_ ?_ ?_
    · rw [h42]; exact ⟨o1, o2, o3, o4, o5, o6⟩
    · rw [h42]; exact ((hS.wA m1).wA m2).wA m3
    · intro j hj
      have r : ∀ q, gA G42 q j = if q = ag ∧ j = i then gA G bg i else if q = tk ∧ j = i then gA G bt i else if q = ao ∧ j = i then gA G bo i else gA G q j := fun q => by rw [h42]; rfl
      by_cases c : j = i
      · refine ⟨?_, ?_, ?_⟩
        · rw [r, if_neg (fun z => a11 z.1), if_neg (fun z => a10 z.1), if_pos ⟨rfl, c⟩, c]; exact sB bo b7.2.2 zb.1 i
        · rw [r, if_neg (fun z => a12 z.1), if_pos ⟨rfl, c⟩, c]; exact sB bt b8.2.2 zb.2.1 i
        · rw [r, if_pos ⟨rfl, c⟩, c]; exact sB bg b9.2.2 zb.2.2 i
      · have e : ∀ q, gA G42 q j = gA G q j := fun q => by rw [r, if_neg (fun z => c z.2), if_neg (fun z => c z.2), if_neg (fun z => c z.2)]
        rw [e, e, e]
        exact hJ j (by omega)
theorem c_PrCopy {E : EV} {G : GH} {Post : Res → GH → Prop} {o : Nat → Nat} {pa ao tk ag wa la pa' pb bo bt bg wb lb pb' p pB : Nat} {rows spare rowsB spareB : List Nat} (hA : PrR G o pa ao tk ag wa) (hB : PrR G o pb bo bt bg wb) (hne : pa ≠ pb) (hw : Wf G) (hWA : WsR E G o wa la pa' rows spare p) (hWB : WsR E G o wb lb pb' rowsB spareB pB) (hd : wb ∉ [wa, la, pa'] ∧ lb ∉ [wa, la, pa'] ∧ pb' ∉ [wa, la, pa']) (hp : pa ∉ [wa, la, pa', wb, lb, pb']) (hpb : pb ∉ [wa, la, pa']) (hl : rows.length + spare.length ≤ 2999) (hBl : rowsB.length ≤ 2990)
    (k : ∀ G' o' p' rows' spare', PrR G' o' pa ao tk ag wa → WsR E G' o' wa la pa' rows' spare' p' → rows'.map (rW G') = rowsB.map (rW G) → (∀ j, j < 3 → gA G' ao j = gA G bo j ∧ gA G' tk j = gA G bt j ∧ gA G' ag j = gA G bg j) → gI G' 259 pa = gI G 259 pb → gI G' 260 pa = gI G 260 pb → gI G' 261 pa = gI G 261 pb → gI G' 262 pa = gI G 262 pb → Stq [pa, wa, la, pa'] G o G' o' → Cs G p G' p' → rows'.length + spare'.length ≤ max (rows.length + spare.length) rowsB.length → Post (.inl none) G') : Cl E 8 m_Pr_copyFrom [.ref pa, .ref pb] G Post := by
  refine j_enter (L := [some (.ref pa), some (.ref pb), none]) me_Pr_copyFrom (cat_c rfl (cat_c rfl cat_n)) (Nat.le_of_ble_eq_true rfl) rfl (wp_Pr_copyFrom_0 pa pb ?_)
  refine c_pr_loop hA hB hne hw (fun G1 hO hS hJ => ?_) 3 0 G rfl ⟨fun _ => rfl, fun _ => rfl, fun _ _ => rfl, fun _ _ => rfl, rfl, rfl⟩ (Stq.rf hw) (fun j hj => absurd hj (Nat.not_lt_zero _))
  obtain ⟨o1, o2, o3, o4, o5, o6⟩ := id hO
  obtain ⟨a1, a2, a3, a4, a5, a6, a7, a8, a9, a10, a11, a12⟩ := id hA
  obtain ⟨b1, b2, b3, b4, b5, b6, b7, b8, b9, b10, b11, b12⟩ := id hB
  refine wp_Pr_copyFrom_2 pa pb 3 ⟨fun _ => ⟨(o1 _).trans b1, (o1 _).trans a1, fun G3 h3 => ⟨wa, (o4 _ _).trans a6, wb, (o4 _ _).trans b6, (o1 _).trans hWA.1, ?_⟩⟩, fun z => absurd (by decide +kernel) z⟩
  have mp : pa < gz G → o pa ∈ [pa] := fun _ => by rw [a2]; exact in1
  have s3 : Stq [pa] G o G3 o := by rw [h3]; exact (((hS.wI mp).wI mp).wI mp).wI mp
  have hp1 : wa ∉ [pa] ∧ la ∉ [pa] ∧ pa' ∉ [pa] ∧ wb ∉ [pa] ∧ lb ∉ [pa] ∧ pb' ∉ [pa] := by
    simp at hp ⊢
    exact ⟨fun z => hp.1 z.symm, fun z => hp.2.1 z.symm, fun z => hp.2.2.1 z.symm, fun z => hp.2.2.2.1 z.symm, fun z => hp.2.2.2.2.1 z.symm, fun z => hp.2.2.2.2.2 z.symm⟩
  have hA3 := hWA.stp hw s3 hp1.1 hp1.2.1 hp1.2.2.1
  have hB3 := hWB.stp hw s3 hp1.2.2.2.1 hp1.2.2.2.2.1 hp1.2.2.2.2.2
  have r3 : ∀ f, gI G3 f pa = if f = 262 then gI G 262 pb else if f = 261 then gI G 261 pb else if f = 260 then gI G 260 pb else if f = 259 then gI G 259 pb else gI G f pa := fun f => by
    rw [h3]
    simp only [gI_sI, and_true, o3]
  have z3 : gz G3 = gz G ∧ gs G3 = gs G := by rw [h3]; exact ⟨o5, o6⟩
  have R3 : ∀ f q, gR G3 f q = gR G f q := fun f q => by rw [h3]; exact o4 f q
  have A3' : ∀ q j, gA G3 q j = gA G1 q j := fun q j => by rw [h3]; rfl
  refine c_WsCopy hA3 hB3 s3.wf hd hl hBl (fun G' o' p' rows' spare' y1 y2 y3 y4 y5 => ?_)
  have np : pa ∉ [wa, la, pa'] := by simp at hp ⊢; exact ⟨hp.1, hp.2.1, hp.2.2.1⟩
  have zpa : pa < gz G := hw pa (by omega)
  have spa := y3.sm (q := pa) (by rw [z3.1]; exact zpa) (by rw [a2]; exact np)
  have sar : ∀ q, A3 G o pa q → ∀ j, gA G' q j = gA G1 q j := fun q hq j => by
    have zq := hw q (by rw [hq.1]; omega)
    rw [(y3.sm (q := q) (by rw [z3.1]; exact zq) (by rw [hq.2.2]; exact np)).2.2.2.2.1, A3']
  have sAll : Stq [pa, wa, la, pa'] G o G' o' := (s3.mono (by simp)).tr (y3.mono (fun x hx => List.mem_cons_of_mem _ hx))
  refine wp_Pr_copyFrom_92 (k G' o' p' rows' spare' (hA.stp hw sAll (fun f => (spa.2.2.2.1 f).trans (R3 f pa))) y1 (y2.trans ((hWB.2.2.2.2.2.1.sub (List.sublist_append_left _ _)).map hw s3 hp1.2.2.2.1)) (fun j hj => ?_) ?_ ?_ ?_ ?_ sAll ?_ y5)
  · rw [sar ao a7, sar tk a8, sar ag a9]
    exact hJ j hj
  · rw [spa.2.2.1]; exact r3 259
  · rw [spa.2.2.1]; exact r3 260
  · rw [spa.2.2.1]; exact r3 261
  · rw [spa.2.2.1]; exact r3 262
  · have v1 := y4.1
    have v2 := y4.2
    exact ⟨by omega, by omega⟩
