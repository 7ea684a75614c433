section PURE7
theorem sEv_at {sc : SC} {s i : Nat} {v : V3} (h : (sEv sc s)[i]? = some v) : (sEv sc s).getD i (0, 0, 0) = v := by
  rw [List.getD_eq_getElem?_getD, h]; rfl
theorem hE_new {sc : SC} {s i : Nat} {v : V3} {mk : Int32} (h : (sEv sc s)[i]? = some v) : hE (setEm sc s i mk) (s, i) = (nI s, v.1, v.2.1, v.2.2, mk) := by
  have e2 : sEm (setEm sc s i mk) s i = mk := by
    show up2 (sEm sc) s i mk s i = mk
    exact u2
  unfold hE
  show (nI s, ((sEv sc s).getD i (0, 0, 0)).1, ((sEv sc s).getD i (0, 0, 0)).2.1, ((sEv sc s).getD i (0, 0, 0)).2.2, sEm (setEm sc s i mk) s i) = _
  rw [sEv_at h, e2]
theorem hE_old {sc : SC} {s i : Nat} {mk : Int32} {z : Nat × Nat} (h : z ≠ (s, i)) : hE (setEm sc s i mk) z = hE sc z := by
  have e2 : sEm (setEm sc s i mk) z.1 z.2 = sEm sc z.1 z.2 := by
    show up2 (sEm sc) s i mk z.1 z.2 = _
    unfold up2
    rw [if_neg (fun c => h (Prod.ext c.1 c.2))]
  unfold hE
  rw [e2]
  rfl
theorem hst_all {x : XS} (h : Inv0 x) : hst x (gHl (cN x)) = (hL (cH x)).map (hE (cS x)) := by
  unfold hst
  rw [h.2.2.2.2.1, List.take_length]
theorem tk_hst {x : XS} {s i : Nat} {v : V3} (h : Inv0 x) (hi : gTk (cN x) s = i) : (∀ z ∈ hL (cH x), hE (setEm (cS x) s i (gMk (cN x))) z = hE (cS x) z) := by
  intro z hz
  have e : (hL (cH x)).take (gHl (cN x)) = hL (cH x) := by rw [h.2.2.2.2.1, List.take_length]
  obtain ⟨b1, b2⟩ := h.2.2.1.2.2.2.1 z (by rw [e]; exact hz)
  refine hE_old (fun c => ?_)
  rw [c, hi] at b2
  omega
theorem tk_wok (hT : TakeLem) {x : XS} {s i : Nat} {v : V3} (hI : Inv x) (hs : s < 3) (hv : (sEv (cS x) s)[i]? = some v) (src : Int32) : WOK (cJ x) (hst x (gHl (cN x)) ++ [(src, v.1, v.2.1, v.2.2, gMk (cN x))]) (gMk (cN x)) (kL (cK x) ++ (admP (cJ x) v (gMk (cN x)) (gWi (cN x))).2.1) (admP (cJ x) v (gMk (cN x)) (gWi (cN x))).1 ∧ (¬ cJ x 0 = 2 → StepOK (cJ x 2) (cJ x 1) (cJ x 3) (gMk (cN x)) v.1) ∧
  ∀ V, (gWi (cN x)).Perm V → (cJ x 0 = 2 → GapOK (cJ x) v V) ∧ ∀ W' Rr n, AdR (cJ x) v (gMk (cN x)) V W' Rr n → (admP (cJ x) v (gMk (cN x)) (gWi (cN x))).1.Perm W' ∧ REq (admP (cJ x) v (gMk (cN x)) (gWi (cN x))).2.1 Rr ∧ ((admP (cJ x) v (gMk (cN x)) (gWi (cN x))).2.2 = 0 ↔ n = 0) := by
  obtain ⟨⟨i1, i2, i3, i4, i5, i6, i7, i8, i9, i10, i11, i12, i13, i14, i15, i16⟩, ho⟩ := hI
  have hm := (i2 s hs).2.1 v (List.mem_of_getElem? hv)
  exact hT (cJ x) _ _ _ _ v src i1 (POK.num i2 i3) hm i7 ho
theorem tk_inv (hT : TakeLem) {x : XS} {s i : Nat} {v : V3} (hI : Inv x) (hs : s < 3) (hi : gTk (cN x) s = i) (hlt : i < gOf (cN x) s) (hv : (sEv (cS x) s)[i]? = some v) (hb : ¬ bU (cB x) = 0 → bT (cB x) s = 0 ∧ ¬ bA (cB x) s = i) : Inv0 (tkEv x s i v) := by
  obtain ⟨w, -, -⟩ := tk_wok hT hI hs hv (nI s)
  obtain ⟨hI0, ho⟩ := hI
  have hh := tk_hst (v := v) hI0 hi
  have hall := hst_all hI0
  obtain ⟨i1, i2, i3, i4, i5, i6, i7, i8, i9, i10, i11, i12, i13, i14, i15, i16⟩ := id hI0
  have tN : (hL (cH x) ++ [(s, i)]).take (gHl (cN x) + 1) = hL (cH x) ++ [(s, i)] := by
    rw [List.take_of_length_le]
    rw [List.length_append, i5]; exact Nat.le_refl _
  have tN0 : (hL (cH x)).take (gHl (cN x)) = hL (cH x) := by rw [i5, List.take_length]
  have tP : ∀ n, n ≤ (hL (cH x)).length → (hL (cH x) ++ [(s, i)]).take n = (hL (cH x)).take n := fun n hn => List.take_append_of_le_length hn
  have hP : ∀ n, n ≤ (hL (cH x)).length → hst (tkEv x s i v) n = hst x n := fun n hn => by
    show ((hL (cH x) ++ [(s, i)]).take n).map (hE (setEm (cS x) s i (gMk (cN x)))) = _
    rw [tP n hn]
    exact List.map_congr_left (fun z hz => hh z (List.mem_of_mem_take hz))
  have hN : hst (tkEv x s i v) (gHl (cN x) + 1) = hst x (gHl (cN x)) ++ [(nI s, v.1, v.2.1, v.2.2, gMk (cN x))] := by
    show ((hL (cH x) ++ [(s, i)]).take (gHl (cN x) + 1)).map (hE (setEm (cS x) s i (gMk (cN x)))) = _
    rw [tN, List.map_append, List.map_cons, List.map_nil, hE_new hv, hall]
    congr 1
    exact List.map_congr_left hh
  have ge : ∀ j, gTk (cN x) j ≤ up1 (gTk (cN x)) s (i + 1) j := fun j => by
    show _ ≤ if j = s then i + 1 else gTk (cN x) j
    by_cases d : j = s
    · rw [if_pos d, d]; omega
    · rw [if_neg d]; exact Nat.le_refl _
  have eq' : ∀ j, up1 (gTk (cN x)) s (i + 1) j = gTk (cN x) j + (if j = s then 1 else 0) := fun j => by
    show (if j = s then i + 1 else gTk (cN x) j) = _
    by_cases d : j = s
    · rw [if_pos d, if_pos d, d]; omega
    · rw [if_neg d, if_neg d]; omega
  have lP := i4.2.2.1
  have lH := i13.2.2
  refine ⟨i1, i2, ⟨fun j hj => ?_, ?_, ?_, fun z hz => ?_, fun j hj => ?_⟩, ⟨i4.1, i4.2.1, ?_, ?_⟩, ?_, fun j hj => Nat.le_trans (i6 j hj) (ge j), ?_, ?_, i9, ?_, ?_, ?_, ⟨i13.1, ?_, i13.2.2⟩, ⟨i14.1, fun z j hj => ?_⟩, fun z => ?_, i16⟩
  · obtain ⟨a1, a2, a3⟩ := i3.1 j hj
    refine ⟨?_, a2, Nat.le_trans a3 (Nat.add_le_add_right (ge j) 4)⟩
    show (if j = s then i + 1 else gTk (cN x) j) ≤ gOf (cN x) j
    by_cases d : j = s
    · rw [if_pos d, d]; omega
    · rw [if_neg d]; exact a1
  · show gHl (cN x) + 1 = up1 (gTk (cN x)) s (i + 1) 0 + up1 (gTk (cN x)) s (i + 1) 1 + up1 (gTk (cN x)) s (i + 1) 2
    rw [eq', eq', eq', i3.2.1]
    have c : s = 0 ∨ s = 1 ∨ s = 2 := by omega
    rcases c with c | c | c <;> subst c <;> simp <;> omega
  · show gHl (cN x) + 1 ≤ (hL (cH x) ++ [(s, i)]).length
    rw [List.length_append, i5]; exact Nat.le_refl _
  · have hz : z ∈ (hL (cH x) ++ [(s, i)]).take (gHl (cN x) + 1) := hz
    rw [tN] at hz
    rcases List.mem_append.mp hz with hz | hz
    · obtain ⟨b1, b2⟩ := i3.2.2.2.1 z (by rw [tN0]; exact hz)
      exact ⟨b1, Nat.lt_of_lt_of_le b2 (ge z.1)⟩
    · rw [List.mem_singleton.mp hz]
      refine ⟨hs, ?_⟩
      show i < if s = s then i + 1 else _
      rw [if_pos rfl]; omega
  · show (((hL (cH x) ++ [(s, i)]).take (gHl (cN x) + 1)).filter (fun e => decide (e.1 = j))).length = up1 (gTk (cN x)) s (i + 1) j
    have cn := i3.2.2.2.2 j hj
    rw [tN0] at cn
    rw [tN, List.filter_append, List.length_append, cn, eq']
    by_cases d : j = s
    · rw [if_pos d, List.filter_cons_of_pos (by simpa using d.symm)]; rfl
    · rw [if_neg d, List.filter_cons_of_neg (by simpa using fun z => d z.symm)]; rfl
  · show gHl (cP x) ≤ (hL (cH x) ++ [(s, i)]).length
    rw [List.length_append]; omega
  · show (∀ e ∈ (hL (cH x) ++ [(s, i)]).take (gHl (cP x)), _) ∧ ∀ j, j < 3 → (((hL (cH x) ++ [(s, i)]).take (gHl (cP x))).filter _).length = _
    rw [tP _ lP]
    exact i4.2.2.2
  · show gHl (cN x) + 1 = (hL (cH x) ++ [(s, i)]).length
    rw [List.length_append, i5]; rfl
  · show WOK (cJ x) (hst (tkEv x s i v) (gHl (cN x) + 1)) _ _ _
    rw [hN]; exact w
  · show WOK (cJ x) (hst (tkEv x s i v) (gHl (cP x))) _ ((kL (cK x) ++ _).take (kP (cK x))) _
    rw [hP _ lP, take_app i13.2.1]
    exact i8
  · intro q' s' w' h1 h2
    show anw (cJ x) (hst (tkEv x s i v) (hC (cH x))) _ _ q' s' w' = resN w' (lastR q' s' none ((kL (cK x) ++ _).take (kC (cK x))))
    rw [hP _ (Nat.le_trans lH lP), take_app (Nat.le_trans i13.1 i13.2.1)]
    exact i10 q' s' w' h1 h2
  · show gPa (cN x) + cntP (cJ x 4) (nI s, v.1, v.2.1, v.2.2, gMk (cN x)) 0 ((hL (cH x)).map (hE (setEm (cS x) s i (gMk (cN x))))) = cntA (cJ x 4) 0 [] (hst (tkEv x s i v) (gHl (cN x) + 1))
    rw [hN, cntA_snoc, List.nil_append, ← i11, cntQ_P, cntP_c _ (gPa (cN x)), hall, List.map_congr_left hh]
  · show gPa (cP x) = cntA (cJ x 4) 0 [] (hst (tkEv x s i v) (gHl (cP x)))
    rw [hP _ lP]; exact i12
  · show kP (cK x) ≤ (kL (cK x) ++ _).length
    rw [List.length_append]
    have := i13.2.1
    omega
  · obtain ⟨b1, b2, b3⟩ := i14.2 z j hj
    obtain ⟨hb1, hb2⟩ := hb z
    show (if j = s then i + 1 else gTk (cN x) j) ≤ bA (cB x) j ∧ _ ∧ (_ → _ = if j = s then i + 1 else gTk (cN x) j)
    by_cases d : j = s
    · subst d
      rw [if_pos rfl]
      refine ⟨?_, b2, fun q => absurd hb1 q⟩
      rw [hi] at b1
      omega
    · rw [if_neg d]
      exact ⟨b1, b2, b3⟩
  · obtain ⟨f1, -⟩ := i15 z
    rw [f1] at hlt
    exact absurd hlt (Nat.not_lt_zero _)
theorem tk_rel (hT : TakeLem) {x y : XS} {Jd : List Nat} {JK s i : Nat} {v : V3} (hI : Inv x) (hr : Rel x y Jd JK) (hs : s < 3) (hi : gTk (cN x) s = i) (hv : (sEv (cS x) s)[i]? = some v) {W' Rr : List WT} {n : Int32} (ha : AdR (cJ y) v (gMk (cN y)) (gWi (cN y)) W' Rr n) : Rel (tkEv x s i v) (rtk y s i v W' Rr n) (Jt Jd (gMk (cN y)) s i v) JK ∧ tkAns x v = rAns (gMk (cN y)) v n := by
  obtain ⟨-, -, w⟩ := tk_wok hT hI hs hv (nI s)
  obtain ⟨hI0, ho⟩ := hI
  have hh := tk_hst (v := v) hI0 hi
  obtain ⟨i1, i2, i3, i4, i5, i6, i7, i8, i9, i10, i11, i12, i13, i14, i15, i16⟩ := id hI0
  obtain ⟨r1, r2, r3, r4, r5, r6, r7, r8, r9⟩ := hr
  rw [← r1, ← r3.2.2.2.1] at ha
  obtain ⟨w1, w2, w3⟩ := (w (gWi (cN y)) r3.2.2.2.2.2).2 W' Rr n ha
  have jd : ∀ h : List (Nat × Nat), (∀ z ∈ h, z ∈ hL (cH x)) → jdO (setEm (cS x) s i (gMk (cN x))) h = jdO (cS x) h := fun h hz => by
    unfold jdO
    congr 1
    refine List.filter_congr (fun z hz' => ?_)
    have e := hh z (hz z hz')
    have e2 : sEm (setEm (cS x) s i (gMk (cN x))) z.1 z.2 = sEm (cS x) z.1 z.2 := congrArg (fun e : ET => e.2.2.2.2) e
    rw [e2]
    rfl
  refine ⟨⟨r1, r2, ⟨r3.1, ?_, ?_, r3.2.2.2.1, ?_, w1⟩, r4, ⟨r5.1, r5.2.1, r5.2.2.1.app w2, ?_, ?_⟩, r6, r7, ?_, ?_⟩, ?_⟩
  · show up1 (gTk (cN x)) s (i + 1) = up1 (gTk (cN y)) s (i + 1)
    rw [r3.2.1]
  · show up1 (gGr (cN x)) s (if gGr (cN x) s < v.1 then v.1 else gGr (cN x) s) = up1 (gGr (cN y)) s (if gGr (cN y) s < v.1 then v.1 else gGr (cN y) s)
    rw [r3.2.2.1]
  · show (if (admP (cJ x) v (gMk (cN x)) (gWi (cN x))).2.2 = 0 then gDr (cN x) + 1 else gDr (cN x)) = if n = 0 then gDr (cN y) + 1 else gDr (cN y)
    rw [r3.2.2.2.2.1]
    by_cases c : n = 0
    · rw [if_pos c, if_pos (w3.mpr c)]
    · rw [if_neg c, if_neg (fun z => c (w3.mp z))]
  · show REq ((kL (cK x) ++ _).take (kP (cK x))) ((kL (cK y) ++ Rr).take (kP (cK y)))
    rw [take_app i13.2.1, take_app (by rw [← r5.2.1, ← r5.2.2.1.len]; exact i13.2.1)]
    exact r5.2.2.2.1
  · show REq ((kL (cK x) ++ _).take (kC (cK x))) ((kL (cK y) ++ Rr).take (kC (cK y)))
    rw [take_app (Nat.le_trans i13.1 i13.2.1), take_app (by rw [← r5.1, ← r5.2.2.1.len]; exact Nat.le_trans i13.1 i13.2.1)]
    exact r5.2.2.2.2
  · show Jt Jd (gMk (cN y)) s i v = jdO (setEm (cS x) s i (gMk (cN x))) (hL (cH x) ++ [(s, i)])
    rw [jdO_app, jd _ (fun _ z => z), ← r8, ← r3.2.2.2.1]
    have e2 : sEm (setEm (cS x) s i (gMk (cN x))) s i = gMk (cN x) := u2
    have e3 : ((sEv (setEm (cS x) s i (gMk (cN x))) s).getD i (0, 0, 0)).1 = v.1 := by
      show ((sEv (cS x) s).getD i (0, 0, 0)).1 = v.1
      rw [sEv_at hv]
    unfold Jt jdO
    by_cases c : gMk (cN x) ≤ v.1 ∧ s < 2
    · rw [if_pos c, List.filter_cons_of_pos (by rw [decide_eq_true_eq, e2, e3]; exact ⟨c.2, c.1⟩)]; rfl
    · rw [if_neg c, List.filter_cons_of_neg (by rw [decide_eq_true_eq, e2, e3]; exact fun z => c ⟨z.2, z.1⟩)]
      exact (List.append_nil _).symm
  · show JK = (jdO (setEm (cS x) s i (gMk (cN x))) ((hL (cH x) ++ [(s, i)]).take (gHl (cP x)))).length
    rw [List.take_append_of_le_length i4.2.2.1, jd _ (fun z hz => List.mem_of_mem_take hz)]
    exact r9
  · unfold tkAns rAns
    rw [r3.2.2.2.1] at w3 ⊢
    by_cases c : n = 0
    · rw [if_pos c, if_pos (w3.mpr c)]
    · rw [if_neg c, if_neg (fun z => c (w3.mp z))]
end PURE7
