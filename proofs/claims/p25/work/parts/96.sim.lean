section PURE9
theorem Inv0.oke {x : XS} (h : Inv0 x) : ∀ z ∈ hL (cH x), OKE (cS x) z := by
  intro z hz
  have e : (hL (cH x)).take (gHl (cN x)) = hL (cH x) := by rw [h.2.2.2.2.1, List.take_length]
  obtain ⟨b1, b2⟩ := h.2.2.1.2.2.2.1 z (by rw [e]; exact hz)
  have b3 := h.2.2.1.1 z.1 b1
  have b4 := h.2.1 z.1 b1
  have n := POK.num h.2.1 h.2.2.1 (hE (cS x) z) (List.mem_map.mpr ⟨z, by rw [e]; exact hz, rfl⟩)
  exact ⟨⟨b1, by omega⟩, n.1⟩
theorem jdO_ev {sc sc' : SC} {L : List Nat} (h : sEv sc = sEv sc') : L.map (jv sc) = L.map (jv sc') := by
  refine List.map_congr_left (fun j _ => ?_)
  unfold jv
  rw [h]
theorem qAsk : QAsk RR := by
  intro x y Jd JK ⟨⟨hi, ho⟩, hr⟩
  obtain ⟨r1, r2, r3, r4, r5, r6, r7, r8, r9⟩ := hr
  have e : cntA (cJ x 4) 0 [] ((hL (cH x)).map (hE (cS x))) = rPairs y Jd := by
    unfold rPairs
    rw [pair_all _ _ rfl hi.oke, r8, r1, jdO_ev r2.1]
  refine ⟨r3.2.2.2.1, r3.2.2.2.2.1, ?_, e, by rw [r5.1, r5.2.2.1.len]⟩
  rw [hi.2.2.2.2.2.2.2.2.2.2.1, hst_all hi]
  exact e
theorem hl_len {x : XS} (h : Inv0 x) : (hL (cH x)).length ≤ 120 := by
  have a := h.2.2.2.2.1
  have b := h.2.2.1.2.1
  have c0 := h.2.2.1.1 0 (by omega)
  have c1 := h.2.2.1.1 1 (by omega)
  have c2 := h.2.2.1.1 2 (by omega)
  have d0 := (h.2.1 0 (by omega)).1
  have d1 := (h.2.1 1 (by omega)).1
  have d2 := (h.2.1 2 (by omega)).1
  omega
theorem hN_len {x : XS} (h : Inv0 x) : (hst x (gHl (cN x))).length = (hL (cH x)).length := by
  rw [hst_all h, List.length_map]
theorem phiN {x : XS} (h : Inv0 x) : (kL (cK x)).length + (gWi (cN x)).length ≤ 1920 ∧ (gWi (cN x)).length ≤ 960 := by
  have a := h.2.2.2.2.2.2.1.2.2.2.2.2
  have l := hN_len h
  have b := hl_len h
  rw [l] at a
  omega
theorem phiP {x : XS} (h : Inv0 x) : kP (cK x) + (gWi (cP x)).length ≤ 1920 := by
  have a := h.2.2.2.2.2.2.2.1.2.2.2.2.2
  have l : (hst x (gHl (cP x))).length = gHl (cP x) := hst_len h.2.2.2.1.2.2.1
  have b := hl_len h
  have c := h.2.2.2.1.2.2.1
  have d := h.2.2.2.2.2.2.2.2.2.2.2.2.1.2.1
  rw [l, List.length_take] at a
  omega
theorem jd_len {x : XS} (h : Inv0 x) : (jdO (cS x) (hL (cH x))).length ≤ gTk (cN x) 0 + gTk (cN x) 1 := by
  have e : (hL (cH x)).take (gHl (cN x)) = hL (cH x) := by rw [h.2.2.2.2.1, List.take_length]
  have c0 := h.2.2.1.2.2.2.2 0 (by omega)
  have c1 := h.2.2.1.2.2.2.2 1 (by omega)
  rw [e] at c0 c1
  rw [← c0, ← c1]
  unfold jdO
  rw [List.length_map]
  generalize hL (cH x) = L
  induction L with
  | nil => exact Nat.le_refl _
  | cons z L ih =>
    have f : ∀ (p : Nat × Nat → Bool), ((z :: L).filter p).length = (if p z = true then 1 else 0) + (L.filter p).length := fun p => by
      by_cases c : p z = true
      · rw [List.filter_cons_of_pos c, if_pos c, List.length_cons]; omega
      · rw [List.filter_cons_of_neg c, if_neg c]; omega
    rw [f, f, f]
    have g : (if (decide (z.1 < 2 ∧ sEm (cS x) z.1 z.2 ≤ ((sEv (cS x) z.1).getD z.2 (0, 0, 0)).1)) = true then 1 else 0) ≤ (if (decide (z.1 = 0)) = true then 1 else 0) + (if (decide (z.1 = 1)) = true then 1 else 0) := by
      by_cases c : z.1 < 2
      · have : z.1 = 0 ∨ z.1 = 1 := by omega
        rcases this with d | d
        · rw [if_pos (c := (decide (z.1 = 0)) = true) (by simpa using d)]
          split <;> omega
        · rw [if_pos (c := (decide (z.1 = 1)) = true) (by simpa using d)]
          split <;> omega
      · rw [if_neg (fun q => c (by rw [decide_eq_true_eq] at q; exact q.1))]
        omega
    omega
theorem qSide (hT : TakeLem) : QSide RR := by
  intro x y Jd JK ⟨hI, hr⟩
  obtain ⟨hi, ho⟩ := id hI
  obtain ⟨r1, r2, r3, r4, r5, r6, r7, r8, r9⟩ := id hr
  obtain ⟨i1, i2, i3, i4, i5, i6, i7, i8, i9, i10, i11, i12, i13, i14, i15, i16⟩ := id hi
  have l := hl_len hi
  obtain ⟨p1, p2⟩ := phiN hi
  have p3 := phiP hi
  have lx := r5.2.2.1.len
  have ly := r3.2.2.2.2.2.length_eq
  have lp := r4.2.2.2.2.2.length_eq
  have vat : ∀ s, s < 3 → gTk (cN x) s < gOf (cN x) s → (sEv (cS x) s)[gTk (cN x) s]? = some ((sEv (cS x) s).getD (gTk (cN x) s) (0, 0, 0)) := fun s hs hl => by
    have := (i3.1 s hs).2.1
    rw [List.getD_eq_getElem?_getD, List.getElem?_eq_getElem (by omega)]; rfl
  have after : ∀ s, s < 3 → gTk (cN x) s < gOf (cN x) s → ∀ v, (sEv (cS x) s)[gTk (cN x) s]? = some v → (kL (cK x) ++ (admP (cJ x) v (gMk (cN x)) (gWi (cN x))).2.1).length + (admP (cJ x) v (gMk (cN x)) (gWi (cN x))).1.length ≤ 1920 := fun s hs hl v hv => by
    have w := (tk_wok hT hI hs hv 0).1.2.2.2.2.2.1
    rw [List.length_append (bs := [_]), hN_len hi] at w
    have := i3.1 s hs
    have d0 := (i2 0 (by omega)).1
    have d1 := (i2 1 (by omega)).1
    have d2 := (i2 2 (by omega)).1
    have c0 := i3.1 0 (by omega)
    have c1 := i3.1 1 (by omega)
    have c2 := i3.1 2 (by omega)
    have l2 : (hL (cH x)).length ≤ 119 := by
      have a := i5
      have b := i3.2.1
      have c : s = 0 ∨ s = 1 ∨ s = 2 := by omega
      rcases c with c | c | c <;> subst c <;> omega
    simp only [List.length_cons, List.length_nil] at w
    omega
  refine ⟨⟨fun s hs => ⟨(i3.1 s hs).1, ?_⟩, ⟨by omega, by omega, by omega, i7.2.1, fun s hs => ⟨(i3.1 s hs).1, (i3.1 s hs).2.1, (i2 s hs).1, ?_⟩, fun s hs hl => ?_⟩, i1.2.2.2.2.2, i13.2.1, ?_, by omega, fun s hs => (i2 s hs).2.2.2, by omega, Nat.le_trans i13.1 i13.2.1, ?_⟩, ?_⟩
  · have := (i3.1 s hs).2.1
    have := (i2 s hs).1
    omega
  · have := i14.1 s hs
    have := (i2 s hs).1
    omega
  · exact Nat.le_trans (after s hs hl _ (vat s hs hl)) (by omega)
  · have := i4.2.2.1
    omega
  · have := i4.2.2.1
    have := i13.2.2
    omega
  · refine ⟨fun s hs => ?_, fun s hs => ?_, fun s hs => ?_, ?_, ?_, ?_, by rw [← r5.2.1, ← lp]; omega, by rw [← lx, ← ly]; omega, fun s hs => ?_, by rw [← r7]; exact i16, fun j hj => ?_, ⟨i7.2.1.perm r3.2.2.2.2.2, by rw [← lx, ← ly]; omega, by rw [← ly]; omega, fun s hs => ?_, fun s hs hl v hv => ⟨fun h2 => ?_, fun c => ?_, fun c => ?_, fun W' Rr n ha => ?_⟩⟩, fun s hs => ⟨?_, ?_, ?_, ?_⟩, fun hu s hs ht => ?_⟩
    · rw [← r2.2.1]; exact sl_m1 (i2 s hs).2.2.1
    · rw [← r3.1, ← r3.2.1, ← r2.1]
      obtain ⟨a1, a2, a3⟩ := i3.1 s hs
      exact ⟨a1, a2, by omega⟩
    · rw [← r2.1]; exact (i2 s hs).1
    · rw [← r5.1, ← lx]; exact Nat.le_trans i13.1 i13.2.1
    · rw [← r5.2.1, ← lx]; exact i13.2.1
    · rw [r9, r8]
      have := congrArg List.length (jdO_take (sc := cS x) (h := hL (cH x)) (n := gHl (cP x)))
      rw [List.length_take] at this
      omega
    · rw [← r2.2.2]; exact (i2 s hs).2.2.2
    · rw [r8] at hj
      unfold jdO at hj
      obtain ⟨z, hz, e⟩ := List.mem_map.mp hj
      obtain ⟨hz, -⟩ := List.mem_filter.mp hz
      have e2 : (hL (cH x)).take (gHl (cN x)) = hL (cH x) := by rw [i5, List.take_length]
      obtain ⟨b1, b2⟩ := i3.2.2.2.1 z (by rw [e2]; exact hz)
      have b3 := i3.1 z.1 b1
      have b4 := (i2 z.1 b1).1
      have q1 : j / 40 = z.1 := by omega
      have q2 : j % 40 = z.2 := by omega
      rw [q1, q2, ← r2.1]
      exact ⟨b1, by omega⟩
    · rw [← r2.2.1]; exact sl_m1 (i2 s hs).2.2.1
    · rw [← r3.1, ← r3.2.1] at hl
      have j := jd_len hi
      have c0 := i3.1 0 (by omega)
      have c1 := i3.1 1 (by omega)
      have d0 := (i2 0 (by omega)).1
      have d1 := (i2 1 (by omega)).1
      rw [r8]
      have c : s = 0 ∨ s = 1 := by omega
      rcases c with c | c <;> subst c <;> omega
    all_goals try (rw [← r3.2.1, ← r2.1] at hv)
    · rw [← r1] at c ⊢
      rw [← r3.2.2.2.1]
      exact (tk_wok hT hI hs hv 0).2.1 c
    · rw [← r1] at c ⊢
      exact ((tk_wok hT hI hs hv 0).2.2 _ r3.2.2.2.2.2).1 c
    · rw [← r3.1, ← r3.2.1] at hl
      have t := tk_rel hT hI hr hs rfl hv ha
      have t1 := t.1.2.2.2.2.1.2.2.1.len
      have t2 := t.1.2.2.1.2.2.2.2.2.length_eq
      have a := after s hs hl v hv
      have t1 : (kL (cK x) ++ (admP (cJ x) v (gMk (cN x)) (gWi (cN x))).2.1).length = (kL (cK y) ++ Rr).length := t1
      have t2 : (admP (cJ x) v (gMk (cN x)) (gWi (cN x))).1.length = W'.length := t2
      omega
    · rw [← r3.2.1]
      have := (i3.1 s hs)
      have := (i2 s hs).1
      omega
    · rw [← r3.1, ← r2.1]; exact (i3.1 s hs).2.1
    · rw [← r2.1]; exact (i2 s hs).1
    · have := r6.2.2 s hs
      have := (i2 s hs).1
      omega
    · rw [← r6.1] at hu
      obtain ⟨e1, e2⟩ := r6.2.1 hu
      rw [← e2] at ht
      rw [← e1, ← r3.2.1]
      exact (i14.2 hu s hs).2.2 ht
end PURE9
