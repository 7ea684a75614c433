section PURE5
theorem bestS_spec {jb : Nat → Int32} {mk key t : Int32} : ∀ (L : List WT) (acc : Option WT), (bestS jb mk key t acc L = none → acc = none ∧ ∀ w ∈ L, ¬ hasM jb mk key t w) ∧ ∀ r, bestS jb mk key t acc L = some r → (acc = some r ∨ (r ∈ L ∧ hasM jb mk key t r)) ∧ (∀ a, acc = some a → wS r ≤ wS a) ∧ ∀ w ∈ L, hasM jb mk key t w → wS r ≤ wS w
  | [], acc => ⟨fun h => ⟨h, fun w hw => absurd hw (by simp)⟩, fun r h => ⟨Or.inl h, fun a ha => by
      have h : acc = some r := h
      rw [ha] at h
      cases h
      exact Int32.le_refl _, fun w hw => absurd hw (by simp)⟩⟩
  | w :: L, acc => by
    obtain ⟨h1, h2⟩ := bestS_spec L (if hasM jb mk key t w then bst acc w else acc)
    refine ⟨fun h => ?_, fun r h => ?_⟩
    · obtain ⟨a1, a2⟩ := h1 h
      by_cases c : hasM jb mk key t w
      · rw [if_pos c] at a1
        unfold bst at a1
        split at a1
        · exact absurd a1 (by simp)
        · split at a1 <;> exact absurd a1 (by simp)
      · rw [if_neg c] at a1
        refine ⟨a1, fun z hz => ?_⟩
        rcases List.mem_cons.mp hz with e | hz
        · rw [e]; exact c
        · exact a2 z hz
    · obtain ⟨a1, a2, a3⟩ := h2 r h
      by_cases c : hasM jb mk key t w
      · rw [if_pos c] at a1 a2
        have hb : (bst acc w = some w ∨ (bst acc w = acc ∧ ∃ b, acc = some b ∧ wS b ≤ wS w)) ∧ ∀ b, acc = some b → bst acc w = some w → wS w ≤ wS b ∨ b = w := by
          unfold bst
          split
          · exact ⟨Or.inl rfl, fun b hb => absurd hb (by simp)⟩
          · rename_i b
            by_cases d : wS b ≤ wS w
            · rw [if_pos d]
              exact ⟨Or.inr ⟨rfl, b, rfl, d⟩, fun b' hb' e => by cases hb'; cases e; exact Or.inr rfl⟩
            · rw [if_neg d]
              exact ⟨Or.inl rfl, fun b' hb' _ => by cases hb'; exact Or.inl (Int32.le_of_lt (Int32.not_le.mp d))⟩
        obtain ⟨b1, b2⟩ := hb
        refine ⟨?_, fun a ha => ?_, fun z hz hm => ?_⟩
        · rcases a1 with a1 | a1
          · rcases b1 with b1 | ⟨b1, -⟩
            · rw [b1] at a1
              cases a1
              exact Or.inr ⟨by simp, c⟩
            · rw [b1] at a1; exact Or.inl a1
          · exact Or.inr ⟨by simp [a1.1], a1.2⟩
        · rcases b1 with b1 | ⟨b1, -⟩
          · have l := a2 w b1
            rcases b2 a ha b1 with e | e
            · exact Int32.le_trans l e
            · rw [e]; exact l
          · exact a2 a (b1.trans ha)
        · rcases List.mem_cons.mp hz with e | hz
          · rw [e]
            rcases b1 with b1 | ⟨b1, b, hb, hl⟩
            · exact a2 w b1
            · exact Int32.le_trans (a2 b (b1.trans hb)) hl
          · exact a3 z hz hm
      · rw [if_neg c] at a1 a2
        refine ⟨?_, a2, fun z hz hm => ?_⟩
        · rcases a1 with a1 | a1
          · exact Or.inl a1
          · exact Or.inr ⟨by simp [a1.1], a1.2⟩
        · rcases List.mem_cons.mp hz with e | hz
          · rw [e] at hm; exact absurd hm c
          · exact a3 z hz hm
theorem bestS_perm {jb : Nat → Int32} {mk key t : Int32} {L M : List WT} (h : L.Perm M) (hu : UQ L) : bestS jb mk key t none L = bestS jb mk key t none M := by
  obtain ⟨l1, l2⟩ := bestS_spec (jb := jb) (mk := mk) (key := key) (t := t) L none
  obtain ⟨m1, m2⟩ := bestS_spec (jb := jb) (mk := mk) (key := key) (t := t) M none
  match hl : bestS jb mk key t none L, hm : bestS jb mk key t none M with
  | none, none => rfl
  | none, some r =>
    rcases (m2 r hm).1 with e | e
    · exact absurd e (by simp)
    · exact absurd e.2 ((l1 hl).2 r (h.mem_iff.mpr e.1))
  | some r, none =>
    rcases (l2 r hl).1 with e | e
    · exact absurd e (by simp)
    · exact absurd e.2 ((m1 hm).2 r (h.mem_iff.mp e.1))
  | some r, some r' =>
    have e1 : r ∈ L ∧ hasM jb mk key t r := (l2 r hl).1.resolve_left (by simp)
    have e2 : r' ∈ M ∧ hasM jb mk key t r' := (m2 r' hm).1.resolve_left (by simp)
    have a := (l2 r hl).2.2 r' (h.mem_iff.mpr e2.1) e2.2
    have b := (m2 r' hm).2.2 r (h.mem_iff.mp e1.1) e1.2
    rw [hu.eq e1.1 (h.mem_iff.mpr e2.1) (e1.2.1.trans e2.2.1.symm) (Int32.le_antisymm a b)]
theorem qSum : QSum RR := by
  intro x y Jd JK ⟨⟨hi, ho⟩, hr⟩ q t
  obtain ⟨r1, r2, r3, r4, r5, r6, r7, r8, r9⟩ := hr
  unfold fSumAt
  rw [← r1, ← r3.2.2.2.1, bestS_perm r3.2.2.2.2.2 hi.2.2.2.2.2.2.1.2.1]
  repeat' split
  all_goals exact ⟨rfl, fun _ => rfl⟩
theorem qRes : QRes RR := by
  intro x y Jd JK ⟨⟨hi, ho⟩, hr⟩ q s w
  have e := (hr.2.2.2.2.1.2.2.2.2).last (k := q) (s := s)
  unfold fResult rRes cRes
  rw [e]
  repeat' split
  all_goals exact ⟨rfl, fun _ => rfl⟩
theorem qAnew : QAnew RR := by
  intro x y Jd JK ⟨⟨hi, ho⟩, hr⟩ q s w
  have e := (hr.2.2.2.2.1.2.2.2.2).last (k := q) (s := s)
  have ca := hi.2.2.2.2.2.2.2.2.2.1 q s w
  rw [e] at ca
  unfold fResultAnew rRes cRes
  by_cases c1 : q < 0
  · rw [if_pos c1, if_pos c1]; exact ⟨rfl, fun _ => rfl⟩
  rw [if_neg c1, if_neg c1]
  by_cases c2 : 6 ≤ q
  · rw [if_pos c2, if_pos c2]; exact ⟨rfl, fun _ => rfl⟩
  rw [if_neg c2, if_neg c2]
  by_cases c3 : s < 0
  · rw [if_pos c3, if_pos c3]; exact ⟨rfl, fun _ => rfl⟩
  rw [if_neg c3, if_neg c3]
  by_cases c4 : 999 < s
  · rw [if_pos c4, if_pos c4]; exact ⟨rfl, fun _ => rfl⟩
  rw [if_neg c4, if_neg c4]
  by_cases c5 : w < 0
  · rw [if_pos c5, if_pos c5]; exact ⟨rfl, fun _ => rfl⟩
  rw [if_neg c5, if_neg c5]
  by_cases c6 : w ≤ 2
  · rw [if_pos c6, if_pos c6]
    have d3 := i32_nlt c3
    have d4 := i32_nlt c4
    have e0 : (0 : Int32).toInt = 0 := by decide +kernel
    have e999 : (999 : Int32).toInt = 999 := by decide +kernel
    rw [e0] at d3
    rw [e999] at d4
    exact ⟨rfl, fun _ => ca d3 d4⟩
  · rw [if_neg c6, if_neg c6]; exact ⟨rfl, fun _ => rfl⟩
/-- an event that is new is none of the history's -/
theorem hE_add {sc : SC} {s : Nat} {v : V3} {z : Nat × Nat} (h : z.2 < (sEv sc z.1).length) : hE (addE sc s v) z = hE sc z := by
  have e1 : (sEv (addE sc s v) z.1).getD z.2 (0, 0, 0) = (sEv sc z.1).getD z.2 (0, 0, 0) := by
    show ((if z.1 = s then sEv sc s ++ [v] else sEv sc z.1)).getD z.2 (0, 0, 0) = _
    by_cases c : z.1 = s
    · rw [if_pos c, ← c, List.getD_eq_getElem?_getD, List.getD_eq_getElem?_getD, List.getElem?_append_left h]
    · rw [if_neg c]
  have e2 : sEm (addE sc s v) z.1 z.2 = sEm sc z.1 z.2 := by
    show up2 (sEm sc) s (sEv sc s).length (-1) z.1 z.2 = _
    unfold up2
    rw [if_neg (fun c => by rw [← c.1] at c; omega)]
  unfold hE
  rw [e1, e2]
theorem qAppend : QAppend RR := by
  intro x y Jd JK ⟨⟨hi, ho⟩, hr⟩ q t kk v
  obtain ⟨r1, r2, r3, r4, r5, r6, r7, r8, r9⟩ := id hr
  unfold fAppend
  rw [← r2.1]
  by_cases c : sIx q < 3
  · rw [if_pos c, if_pos c]
    by_cases c1 : apBad t kk v
    · rw [if_pos c1, if_pos c1]; exact ⟨⟨rfl, fun _ => rfl⟩, ⟨hi, ho⟩, hr⟩
    rw [if_neg c1, if_neg c1]
    by_cases c2 : (sEv (cS x) (sIx q)).length < 40
    · rw [if_pos c2, if_pos c2]
      generalize sIx q = s at *
      obtain ⟨i1, i2, i3, i4, i5, i6, i7, i8, i9, i10, i11, i12, i13, i14, i15, i16⟩ := id hi
      have hl : ∀ j, (sEv (cS x) j).length ≤ (sEv (addE (cS x) s (t, kk, v)) j).length := fun j => by
        show _ ≤ (if j = s then sEv (cS x) s ++ [(t, kk, v)] else sEv (cS x) j).length
        by_cases d : j = s
        · rw [if_pos d, d, List.length_append]; omega
        · rw [if_neg d]; exact Nat.le_refl _
      have so : SOK (addE (cS x) s (t, kk, v)) := fun j hj => by
        obtain ⟨a1, a2, a3, a4⟩ := i2 j hj
        refine ⟨?_, ?_, a3, a4⟩
        · show (if j = s then sEv (cS x) s ++ [(t, kk, v)] else sEv (cS x) j).length ≤ 40
          by_cases d : j = s
          · rw [if_pos d, List.length_append]; simp; omega
          · rw [if_neg d]; exact a1
        · show ∀ u ∈ (if j = s then sEv (cS x) s ++ [(t, kk, v)] else sEv (cS x) j), VOK u
          by_cases d : j = s
          · rw [if_pos d]
            intro u hu
            rcases List.mem_append.mp hu with hu | hu
            · exact (i2 s c).2.1 u hu
            · rw [List.mem_singleton.mp hu]
              have b1 := i32_nlt (fun z => c1 (Or.inl z))
              have b2 := i32_nlt (fun z => c1 (Or.inr (Or.inl z)))
              have b3 := i32_nlt (fun z => c1 (Or.inr (Or.inr (Or.inl z))))
              have b4 := i32_nle (fun z => c1 (Or.inr (Or.inr (Or.inr (Or.inl z)))))
              have e0 : (0 : Int32).toInt = 0 := by decide +kernel
              have e6 : (6 : Int32).toInt = 6 := by decide +kernel
              have e999 : (999 : Int32).toInt = 999 := by decide +kernel
              rw [e0] at b1 b3
              rw [e999] at b2
              rw [e6] at b4
              exact ⟨b1, b2, b3, by show kk.toInt ≤ 5; omega⟩
          · rw [if_neg d]; exact a2
      have he : ∀ z ∈ hL (cH x), hE (addE (cS x) s (t, kk, v)) z = hE (cS x) z := fun z hz => by
        have e : (hL (cH x)).take (gHl (cN x)) = hL (cH x) := by rw [i5, List.take_length]
        obtain ⟨b1, b2⟩ := i3.2.2.2.1 z (by rw [e]; exact hz)
        have := i3.1 z.1 b1
        exact hE_add (by omega)
      have hh : ∀ n, ((hL (cH x)).take n).map (hE (addE (cS x) s (t, kk, v))) = hst x n := fun n => List.map_congr_left (fun z hz => he z (List.mem_of_mem_take hz))
      have pk : ∀ P, POK (cS x) (hL (cH x)) P → POK (addE (cS x) s (t, kk, v)) (hL (cH x)) P := fun P hp => ⟨fun j hj => ⟨(hp.1 j hj).1, Nat.le_trans (hp.1 j hj).2.1 (hl j), (hp.1 j hj).2.2⟩, hp.2⟩
      have jd : ∀ n, jdO (addE (cS x) s (t, kk, v)) ((hL (cH x)).take n) = jdO (cS x) ((hL (cH x)).take n) := fun n => by
        unfold jdO
        congr 1
        refine List.filter_congr (fun z hz => ?_)
        have e := he z (List.mem_of_mem_take hz)
        have e1 : ((sEv (addE (cS x) s (t, kk, v)) z.1).getD z.2 (0, 0, 0)).1 = ((sEv (cS x) z.1).getD z.2 (0, 0, 0)).1 := congrArg (fun e : ET => e.2.1) e
        have e2 : sEm (addE (cS x) s (t, kk, v)) z.1 z.2 = sEm (cS x) z.1 z.2 := congrArg (fun e : ET => e.2.2.2.2) e
        rw [e1, e2]
      refine ⟨⟨rfl, fun _ => rfl⟩, ⟨⟨i1, so, pk _ i3, pk _ i4, i5, i6, ?_, ?_, i9, ?_, ?_, ?_, i13, ⟨fun j hj => Nat.le_trans (i14.1 j hj) (hl j), i14.2⟩, i15, i16⟩, ho⟩, r1, ⟨?_, r2.2.1, r2.2.2⟩, r3, r4, r5, ⟨r6.1, r6.2.1, fun j hj => Nat.le_trans (r6.2.2 j hj) (hl j)⟩, r7, ?_, ?_⟩
      · show WOK (cJ x) (((hL (cH x)).take (gHl (cN x))).map (hE (addE (cS x) s (t, kk, v)))) _ _ _
        rw [hh]; exact i7
      · show WOK (cJ x) (((hL (cH x)).take (gHl (cP x))).map (hE (addE (cS x) s (t, kk, v)))) _ _ _
        rw [hh]; exact i8
      · intro q' s' w' h1 h2
        show anw (cJ x) (((hL (cH x)).take (hC (cH x))).map (hE (addE (cS x) s (t, kk, v)))) _ _ q' s' w' = _
        rw [hh]; exact i10 q' s' w' h1 h2
      · show gPa (cN x) = cntA (cJ x 4) 0 [] (((hL (cH x)).take (gHl (cN x))).map (hE (addE (cS x) s (t, kk, v))))
        rw [hh]; exact i11
      · show gPa (cP x) = cntA (cJ x 4) 0 [] (((hL (cH x)).take (gHl (cP x))).map (hE (addE (cS x) s (t, kk, v))))
        rw [hh]; exact i12
      · show up1 (sEv (cS x)) s (sEv (cS x) s ++ [(t, kk, v)]) = up1 (sEv (cS y)) s (sEv (cS y) s ++ [(t, kk, v)])
        rw [r2.1]
      · have := jd (hL (cH x)).length
        rw [List.take_length] at this
        show Jd = jdO (addE (cS x) s (t, kk, v)) (hL (cH x))
        rw [this]; exact r8
      · show JK = (jdO (addE (cS x) s (t, kk, v)) ((hL (cH x)).take (gHl (cP x)))).length
        rw [jd]; exact r9
    · rw [if_neg c2, if_neg c2]; exact ⟨⟨rfl, fun _ => rfl⟩, ⟨hi, ho⟩, hr⟩
  · rw [if_neg c, if_neg c]; exact ⟨⟨rfl, fun _ => rfl⟩, ⟨hi, ho⟩, hr⟩
end PURE5
