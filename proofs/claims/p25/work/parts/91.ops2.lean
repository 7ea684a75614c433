section PURE4
def HNum (H : List ET) : Prop := ∀ e ∈ H, (0 ≤ (eT e).toInt ∧ (eT e).toInt ≤ 999) ∧ 0 ≤ (eK e).toInt ∧ (eK e).toInt ≤ 5
/-- what a recomputation gives, from the windows' invariant -/
def CAlem : Prop := ∀ (jb : Nat → Int32) (H : List ET) (mk : Int32) (L W : List WT), H.length ≤ 120 → JOK jb → HNum H → WOK jb H mk L W → OutD W mk → ∀ q s w : Int32, 0 ≤ s.toInt → s.toInt ≤ 999 → anw jb H H.length mk q s w = resN w (lastR q s none L)
theorem POK.num {sc : SC} {h : List (Nat × Nat)} {P : PG} (hs : SOK sc) (hp : POK sc h P) : HNum ((h.take (gHl P)).map (hE sc)) := by
  intro e he
  obtain ⟨z, hz, rfl⟩ := List.mem_map.mp he
  obtain ⟨h1, h2⟩ := hp.2.2.2.1 z hz
  have h3 := hp.1 z.1 h1
  have hl : z.2 < (sEv sc z.1).length := by omega
  have hm := (hs z.1 h1).2.1 _ (List.getElem_mem hl)
  have e : (sEv sc z.1).getD z.2 (0, 0, 0) = (sEv sc z.1)[z.2] := by
    rw [List.getD_eq_getElem?_getD, List.getElem?_eq_getElem hl]; rfl
  show (0 ≤ ((sEv sc z.1).getD z.2 (0, 0, 0)).1.toInt ∧ _) ∧ 0 ≤ ((sEv sc z.1).getD z.2 (0, 0, 0)).2.1.toInt ∧ _
  unfold hE
  rw [e]
  exact ⟨⟨hm.1, hm.2.1⟩, hm.2.2.1, hm.2.2.2⟩
theorem hst_len {x : XS} {n : Nat} (h : n ≤ (hL (cH x)).length) : (hst x n).length = n := by
  unfold hst
  rw [List.length_map, List.length_take]
  omega
/-- the recomputation at the snapshot -/
theorem CA_snap (hCA : CAlem) {x : XS} (hI : Inv0 x) {q s w : Int32} (h1 : 0 ≤ s.toInt) (h2 : s.toInt ≤ 999) : anw (cJ x) (hst x (gHl (cP x))) (gHl (cP x)) (gMk (cP x)) q s w = resN w (lastR q s none ((kL (cK x)).take (kP (cK x)))) := by
  obtain ⟨i1, i2, i3, i4, i5, i6, i7, i8, i9, i10, i11, i12, i13, i14, i15, i16⟩ := hI
  have hl : (hst x (gHl (cP x))).length ≤ 120 := by
    rw [hst_len i4.2.2.1, i4.2.1]
    have c0 := i4.1 0 (by omega)
    have c1 := i4.1 1 (by omega)
    have c2 := i4.1 2 (by omega)
    have d0 := (i2 0 (by omega)).1
    have d1 := (i2 1 (by omega)).1
    have d2 := (i2 2 (by omega)).1
    omega
  have := hCA (cJ x) _ _ _ _ hl i1 (POK.num i2 i4) i8 i9 q s w h1 h2
  rwa [hst_len i4.2.2.1] at this
theorem qConfirm (hCA : CAlem) : QConfirm RR := by
  intro x y Jd JK ⟨⟨hi, ho⟩, hr⟩
  obtain ⟨r1, r2, r3, r4, r5, r6, r7, r8, r9⟩ := id hr
  unfold fConfirm
  rw [← r7]
  by_cases c : tU (cT x) = 0
  · rw [if_pos c, if_pos c]
    exact ⟨⟨rfl, fun _ => rfl⟩, ⟨hi, ho⟩, hr⟩
  · rw [if_neg c, if_neg c]
    obtain ⟨i1, i2, i3, i4, i5, i6, i7, i8, i9, i10, i11, i12, i13, i14, i15, i16⟩ := id hi
    refine ⟨⟨rfl, fun _ => ?_⟩, ⟨⟨i1, i2, i3, i4, i5, i6, i7, i8, i9, fun q s w h1 h2 => CA_snap hCA hi h1 h2, i11, i12, ⟨Nat.le_refl _, i13.2.1, Nat.le_refl _⟩, i14, fun z => ?_, i16⟩, ho⟩, r1, r2, r3, r4, ⟨r5.2.1, r5.2.1, r5.2.2.1, r5.2.2.2.1, r5.2.2.2.1⟩, r6, ?_, r8, r9⟩
    · show nI (kP (cK x)) = nI (kP (cK y))
      rw [r5.2.1]
    · obtain ⟨f1, f2, f3, f4, f5, f6⟩ := i15 z
      refine ⟨f1, f2, ?_, ?_, f5, f6⟩
      · show (hL (cH x), gHl (cP x), gMk (cP x)) = _
        rw [f3, f2]; rfl
      · show (kL (cK x), kP (cK x), kP (cK x)) = _
        rw [f4]
    · show (tB (cT x), tS (cT x), 0, tW (cT x)) = (tB (cT y), tS (cT y), 0, tW (cT y))
      rw [r7]
/-- all back to the snapshot -/
theorem fall_inv (hCA : CAlem) {x : XS} (hI : Inv0 x) : Inv0 (fall0 x) := by
  obtain ⟨i1, i2, i3, i4, i5, i6, i7, i8, i9, i10, i11, i12, i13, i14, i15, i16⟩ := id hI
  have l1 : ((hL (cH x)).take (gHl (cP x))).length = gHl (cP x) := by
    rw [List.length_take]
    have := i4.2.2.1
    omega
  have l2 : ((kL (cK x)).take (kP (cK x))).length = kP (cK x) := by
    rw [List.length_take]
    have := i13.2.1
    omega
  have t1 : ∀ {α : Type} (L : List α) (n : Nat), (L.take n).take n = L.take n := fun L n => by rw [List.take_take]; simp
  have eh : hst (fall0 x) (gHl (cP x)) = hst x (gHl (cP x)) := by
    show (((hL (cH x)).take (gHl (cP x))).take (gHl (cP x))).map _ = _
    rw [t1]; rfl
  have pk : POK (cS x) ((hL (cH x)).take (gHl (cP x))) (cP x) := ⟨i4.1, i4.2.1, Nat.le_of_eq l1.symm, by rw [t1]; exact i4.2.2.2⟩
  refine ⟨i1, i2, pk, pk, l1.symm, fun s _ => Nat.le_refl _, ?_, ?_, i9, fun q s w h1 h2 => ?_, ?_, ?_, ⟨Nat.le_refl _, Nat.le_of_eq l2.symm, Nat.le_refl _⟩, ⟨i14.1, fun z => absurd rfl z⟩, fun z => ?_, i16⟩
  · show WOK (cJ x) (hst (fall0 x) (gHl (cP x))) _ ((kL (cK x)).take (kP (cK x))) _
    rw [eh]; exact i8
  · show WOK (cJ x) (hst (fall0 x) (gHl (cP x))) _ (((kL (cK x)).take (kP (cK x))).take (kP (cK x))) _
    rw [eh, t1]; exact i8
  · have := CA_snap hCA hI (q := q) (w := w) h1 h2
    show anw (cJ x) (hst (fall0 x) (gHl (cP x))) _ _ q s w = resN w (lastR q s none (((kL (cK x)).take (kP (cK x))).take (kP (cK x))))
    rw [eh, t1]; exact this
  · show gPa (cP x) = cntA (cJ x 4) 0 [] (hst (fall0 x) (gHl (cP x)))
    rw [eh]; exact i12
  · show gPa (cP x) = cntA (cJ x 4) 0 [] (hst (fall0 x) (gHl (cP x)))
    rw [eh]; exact i12
  · obtain ⟨f1, f2, f3, f4, f5, f6⟩ := i15 z
    refine ⟨f2, f2, ?_, ?_, rfl, f6⟩
    · show ((hL (cH x)).take (gHl (cP x)), gHl (cP x), gMk (cP x)) = _
      rw [f3, f2]; rfl
    · show ((kL (cK x)).take (kP (cK x)), kP (cK x), kP (cK x)) = _
      rw [f4]; rfl
theorem jdO_app {sc : SC} {h g : List (Nat × Nat)} : jdO sc (h ++ g) = jdO sc h ++ jdO sc g := by
  unfold jdO
  rw [List.filter_append, List.map_append]
theorem jdO_take {sc : SC} {h : List (Nat × Nat)} {n : Nat} : (jdO sc h).take (jdO sc (h.take n)).length = jdO sc (h.take n) := by
  have e : jdO sc h = jdO sc (h.take n) ++ jdO sc (h.drop n) := by rw [← jdO_app, List.take_append_drop]
  rw [e, List.take_left]
theorem fall_rel {x y : XS} {Jd : List Nat} {JK : Nat} (hI : Inv0 x) (h : Rel x y Jd JK) : Rel (fall0 x) (rRest y) (Jd.take JK) JK := by
  obtain ⟨r1, r2, r3, r4, ⟨k1, k2, k3, k4, k5⟩, r6, r7, r8, r9⟩ := h
  obtain ⟨i1, i2, i3, i4, i5, i6, i7, i8, i9, i10, i11, i12, i13, i14, i15, i16⟩ := hI
  have t1 : ∀ {α : Type} (L : List α) (n : Nat), (L.take n).take n = L.take n := fun L n => by rw [List.take_take]; simp
  refine ⟨r1, r2, ⟨r4.1, r4.2.1, r4.2.2.1, r4.2.2.2.1, r4.2.2.2.2.1, r4.2.2.2.2.2⟩, r4, ⟨k2, k2, k4, ?_, ?_⟩, ⟨rfl, fun z => absurd rfl z, r6.2.2⟩, ?_, ?_, ?_⟩
  · show REq (((kL (cK x)).take (kP (cK x))).take (kP (cK x))) (((kL (cK y)).take (kP (cK y))).take (kP (cK y)))
    rw [t1, t1]; exact k4
  · show REq (((kL (cK x)).take (kP (cK x))).take (kP (cK x))) (((kL (cK y)).take (kP (cK y))).take (kP (cK y)))
    rw [t1, t1]; exact k4
  · show (tB (cT x), tS (cT x), 0, tW (cT x)) = (tB (cT y), tS (cT y), 0, tW (cT y))
    rw [r7]
  · show Jd.take JK = jdO (cS x) ((hL (cH x)).take (gHl (cP x)))
    rw [r8, r9]; exact jdO_take
  · show JK = (jdO (cS x) (((hL (cH x)).take (gHl (cP x))).take (gHl (cP x)))).length
    rw [t1]; exact r9
theorem qFail (hCA : CAlem) : QFail RR := by
  intro x y Jd JK ⟨⟨hi, ho⟩, hr⟩ W hW
  refine ⟨?_, look_inv (fall_inv hCA hi), look_rel (fall_inv hCA hi) (fall_rel hi hr) hW⟩
  show nI (kP (cK x)) = nI (kP (cK y))
  rw [hr.2.2.2.2.1.2.1]
theorem setW_inv {x : XS} {q : Int32} (h : Inv0 x) (h1 : ¬ q < 1) (h2 : q ≤ 3) : Inv0 (setW x q) := by
  obtain ⟨i1, i2, i3, i4, i5, i6, i7, i8, i9, i10, i11, i12, i13, i14, i15, i16⟩ := h
  refine ⟨i1, i2, i3, i4, i5, i6, i7, i8, i9, i10, i11, i12, i13, i14, i15, ?_⟩
  have d1 := i32_nlt h1
  have d2 := i32_le h2
  have e1 : (1 : Int32).toInt = 1 := by decide +kernel
  have e2 : (2 : Int32).toInt = 2 := by decide +kernel
  have e3 : (3 : Int32).toInt = 3 := by decide +kernel
  rw [e1] at d1
  rw [e3] at d2
  have c : q.toInt = 1 ∨ q.toInt = 2 ∨ q.toInt = 3 := by omega
  rcases c with c | c | c
  · exact Or.inl (Int32.toInt_inj.mp (c.trans e1.symm))
  · exact Or.inr (Or.inl (Int32.toInt_inj.mp (c.trans e2.symm)))
  · exact Or.inr (Or.inr (Int32.toInt_inj.mp (c.trans e3.symm)))
theorem qWork (hCA : CAlem) : QWork RR := by
  intro x y Jd JK ⟨⟨hi, ho⟩, hr⟩ q
  have r7 := hr.2.2.2.2.2.2.1
  refine ⟨fun c => ?_, fun c1 c2 c3 => ?_, fun c1 c2 c3 W hW => ?_⟩
  · unfold fWorkers
    rcases c with c | c
    · rw [if_pos c]; exact ⟨rfl, ⟨hi, ho⟩, hr⟩
    · by_cases c1 : q < 1
      · rw [if_pos c1]; exact ⟨rfl, ⟨hi, ho⟩, hr⟩
      · rw [if_neg c1, if_neg c]; exact ⟨rfl, ⟨hi, ho⟩, hr⟩
  · unfold fWorkers
    rw [if_neg c1, if_pos c2, if_pos (by rw [r7]; exact c3)]
    exact ⟨rfl, ⟨hi, ho⟩, hr⟩
  · unfold fWorkers
    rw [if_neg c1, if_pos c2, if_neg (by rw [r7]; exact c3)]
    have hi2 := setW_inv hi c1 c2
    have hr2 : Rel (setW x q) (setW y q) Jd JK := by
      obtain ⟨s1, s2, s3, s4, s5, s6, s7, s8, s9⟩ := hr
      refine ⟨s1, s2, s3, s4, s5, s6, ?_, s8, s9⟩
      show (tB (cT x), tS (cT x), tU (cT x), q) = (tB (cT y), tS (cT y), tU (cT y), q)
      rw [s7]
    refine ⟨⟨rfl, fun _ => ?_⟩, look_inv (fall_inv hCA hi2), look_rel (fall_inv hCA hi2) (fall_rel hi2 hr2) hW⟩
    show movN (tW (cT x)) q 6 0 0 = movN (tW (cT y)) q 6 0 0
    rw [r7]
theorem qIdle : QIdle RR := by
  intro x y Jd JK ⟨⟨hi, ho⟩, hr⟩ q v hv
  refine ⟨fun c => ?_, fun s hs hq W hW => ?_⟩
  · unfold fIdle
    rw [if_neg c]
    exact ⟨rfl, ⟨hi, ho⟩, hr⟩
  · unfold fIdle
    rw [if_pos (by omega), hq]
    have hi2 : Inv0 (cJ x, setId (cS x) s v, cN x, cP x, cH x, cK x, cB x, cT x) := by
      obtain ⟨i1, i2, i3, i4, i5, i6, i7, i8, i9, i10, i11, i12, i13, i14, i15, i16⟩ := hi
      refine ⟨i1, fun j hj => ?_, i3, i4, i5, i6, i7, i8, i9, i10, i11, i12, i13, i14, i15, i16⟩
      obtain ⟨a1, a2, a3, a4⟩ := i2 j hj
      refine ⟨a1, a2, a3, ?_⟩
      show (if j = s then v else sId (cS x) j) = 0 ∨ (if j = s then v else sId (cS x) j) = 1
      by_cases d : j = s
      · rw [if_pos d]; exact hv
      · rw [if_neg d]; exact a4
    have hr2 : Rel (cJ x, setId (cS x) s v, cN x, cP x, cH x, cK x, cB x, cT x) (idX y s v) Jd JK := by
      obtain ⟨s1, s2, s3, s4, s5, s6, s7, s8, s9⟩ := hr
      refine ⟨s1, ⟨s2.1, s2.2.1, ?_⟩, s3, s4, s5, s6, s7, s8, s9⟩
      show up1 (sId (cS x)) s v = up1 (sId (cS y)) s v
      rw [s2.2.2]
    refine ⟨⟨rfl, fun _ => ?_⟩, look_inv hi2, look_rel hi2 hr2 hW⟩
    show sId (cS x) s = sId (cS y) s
    rw [hr.2.1.2.2]
end PURE4
