section INIT3
variable {E : EV} {Post : Res → GH → Prop}
abbrev RA (A : Nat → Nat) : List Nat := (List.range 31).map A
theorem toRA {A : Nat → Nat} {js : List Nat} {G G' : GH} {o o' : Nat → Nat} (s : Stq (js.map A) G o G' o') (hj : ∀ j ∈ js, j < 31) : Stq (RA A) G o G' o' :=
  s.mono (fun z hz => by
    obtain ⟨j, hj1, hj2⟩ := List.mem_map.mp hz
    exact List.mem_map.mpr ⟨j, List.mem_range.mpr (hj j hj1), hj2⟩)
def X0 : XS := (jb0, sc0, P0, P0, ([], 0, -1), ([], 0, 0), (fun _ => 0, fun _ => 0, 0), (0, 0, 0, 1))
theorem init_F {G : GH} {o A : Nat → Nat} (hA : InjA A) (h : IP E G o A 6 5) (h26 : A 26 < gz G) (h28 : A 28 = gz G) (h29 : A 29 = gz G + 1) (h30 : A 30 = gz G + 2)
    (k : ∀ G' o', StS E G' o' A X0 0 → Stq (RA A) G o G' o' → gz G' = gz G + 3 → gs G' = gs G + 9 → EmR E G' → Post (.inl none) G') : J E 6 m_St_init 94 [some (.ref (A 0))] [.ref (A 26), .ref (A 0)] G Post := by
  refine wp_St_init_94 (A 0) (A 0) (A 26) ⟨h.2.2.2.1, fun G2 hG2 G4 hG4 => ?_⟩
  obtain ⟨hI, s2, t2, o2, z2, q2⟩ := h.next (lo := 28) (t := 1) (n := 3) hA h26 (by omega) G2 hG2
  generalize uo o (gz G) (gz G) = oo2 at *
  rw [← h28] at t2 o2
  obtain ⟨i1, i2, i3, i4, i5, i6, i7, i8, i9, i10, i11, i12⟩ := id hI
  have w28 := i1 (A 28) (by omega)
  have s4 : Stq ([28].map A) G2 oo2 G4 (uo oo2 (gz G2) (A 28)) := hG4 ▸ (Stq.rf i1).al (A 28)
  have e29 : gz G2 = A 29 := by omega
  have a29 : gT G4 (A 29) = 20 ∧ gN G4 (A 29) = 3 ∧ uo oo2 (gz G2) (A 28) (A 29) = A 28 ∧ ∀ j, gA G4 (A 29) j = 0 := by
    rw [hG4, ← e29]; exact ⟨if_pos rfl, if_pos rfl, uo_eq, fun j => if_pos rfl⟩
  have z4 : gz G4 = gz G2 + 1 := by rw [hG4]; rfl
  have q4 : gs G4 = gs G2 + 3 := by rw [hG4]; rfl
  have t4 : gT G4 (A 28) = 1 := s4.tg' i1 t2 (by omega)
  have o4 : uo oo2 (gz G2) (A 28) (A 28) = A 28 := (s4.ow w28).trans o2
  generalize uo oo2 (gz G2) (A 28) = oo4 at *
  clear hG4
  rw [← h28]
  refine ⟨t4, fun G7 hG7 => ?_⟩
  have s7a : Stq ([28].map A) G4 oo4 (sR G4 0 (A 28) (some (gz G2))) oo4 := (Stq.rf s4.wf).wR (fun _ => by rw [o4]; exact in1)
  have s7 : Stq ([28].map A) G4 oo4 G7 (uo oo4 (gz G4) (A 28)) := hG7 ▸ s7a.al (A 28)
  have e30 : gz G4 = A 30 := by omega
  have a30 : gT G7 (A 30) = 21 ∧ gN G7 (A 30) = 3 ∧ uo oo4 (gz G4) (A 28) (A 30) = A 28 ∧ ∀ j, gA G7 (A 30) j = 0 := by
    rw [hG7, ← e30]; exact ⟨if_pos rfl, if_pos rfl, uo_eq, fun j => if_pos rfl⟩
  have b29 : gT G7 (A 29) = 20 ∧ gN G7 (A 29) = 3 ∧ uo oo4 (gz G4) (A 28) (A 29) = A 28 ∧ ∀ j, gA G7 (A 29) j = 0 :=
    ⟨(s7.tg (by omega)).trans a29.1, (s7.ln (by omega)).trans a29.2.1, (s7.ow (by omega)).trans a29.2.2.1, fun j => by rw [hG7, gA_al, if_neg (by show A 29 ≠ gz G4; omega)]; exact a29.2.2.2 j⟩
  have r0 : gR G7 0 (A 28) = some (A 29) := by rw [hG7, gR_al, if_neg (by show A 28 ≠ gz G4; omega), ← e29]; exact gR_sR_eq
  have t7 : gT G7 (A 28) = 1 := s7.tg' s4.wf t4 (by omega)
  have z7 : gz G7 = gz G4 + 1 := by rw [hG7]; rfl
  have q7 : gs G7 = gs G4 + 3 := by rw [hG7]; rfl
  have o7 : uo oo4 (gz G4) (A 28) (A 28) = A 28 := (s7.ow (by omega)).trans o4
  have o70 : uo oo4 (gz G4) (A 28) (A 0) = A 0 := by
    have := i1 (A 0) (by omega)
    rw [s7.ow (by omega), s4.ow this]; exact i5
  have r70 : ∀ f, gR G7 f (A 0) = gR G2 f (A 0) := fun f => by
    have hz0 := i1 (A 0) (by omega)
    have y1 := s4.sm hz0 (by rw [i5]; exact hA.n1 (i := 0) (j := 28) (by omega) (by omega) (by omega))
    have y2 := s7.sm (q := A 0) (by omega) (by rw [s4.ow hz0, i5]; exact hA.n1 (i := 0) (j := 28) (by omega) (by omega) (by omega))
    exact (y2.2.2.2.1 f).trans (y1.2.2.2.1 f)
  have sI7 : Stq ([28].map A) G2 oo2 G7 (uo oo4 (gz G4) (A 28)) := s4.tr s7
  have hI7 : IP E G7 (uo oo4 (gz G4) (A 28)) A 6 6 := hI.stp (lo := 28) hA sI7 (by intro j hj; simp at hj; omega) (by omega) (fun i _ => r70 _) (fun q hq => by
    by_cases c : q < gz G2
    · rw [sI7.ow c]; have := i3 q c; omega
    · have c1 : q = gz G2 ∨ q = gz G4 := by omega
      rcases c1 with c1 | c1
      · rw [c1, e29, b29.2.2.1]; omega
      · have e : uo oo4 (gz G4) (A 28) (gz G4) = A 28 := uo_eq
        rw [c1, e]; omega)
  generalize uo oo4 (gz G4) (A 28) = oo7 at *
  clear hG7
  refine ⟨t7, hI7.2.2.2.1, fun G11 hG11 => ?_⟩
  have i28 : A 28 < gz G7 → oo7 (A 28) ∈ [0, 28].map A := fun _ => by rw [o7]; exact List.mem_map.mpr ⟨28, by decide, rfl⟩
  have i0 : A 0 < gz G7 → oo7 (A 0) ∈ [0, 28].map A := fun _ => by rw [o70]; exact List.mem_map.mpr ⟨0, by decide, rfl⟩
  have sL : Stq ([0, 28].map A) G7 oo7 (sI (sI (sI G11 584 (A 0) 0) 585 (A 0) 0) 586 (A 0) 1) oo7 := hG11 ▸ ((((((((Stq.rf hI7.1).wR i28).wI i28).wR i0).wI i0).wI i0).wI i0).wI i0)
  have rL : ∀ f, gR (sI (sI (sI G11 584 (A 0) 0) 585 (A 0) 0) 586 (A 0) 1) f (A 0) = if f = 582 then some (A 28) else gR G7 f (A 0) := fun f => by
    subst hG11
    show gR (sR (sI (sR G7 1 (A 28) _) 2 (A 28) 0) 582 (A 0) (some (A 28))) f (A 0) = _
    rw [gR_sR]
    by_cases c : f = 582
    · rw [if_pos ⟨c, rfl⟩, if_pos c]
    · rw [if_neg (fun z => c z.1), if_neg c]
      show gR (sR G7 1 (A 28) _) f (A 0) = _
      rw [gR_sR, if_neg (fun z => hA.ne (i := 0) (j := 28) (by omega) (by omega) (by omega) z.2)]
  have rB : gR (sI (sI (sI G11 584 (A 0) 0) 585 (A 0) 0) 586 (A 0) 1) 0 (A 28) = some (A 29) ∧ gR (sI (sI (sI G11 584 (A 0) 0) 585 (A 0) 0) 586 (A 0) 1) 1 (A 28) = some (A 30) := by
    subst hG11
    refine ⟨?_, ?_⟩
    · show gR (sR (sI (sR G7 1 (A 28) _) 2 (A 28) 0) 582 (A 0) (some (A 28))) 0 (A 28) = _
      rw [gR_sR, if_neg (fun z => absurd z.1 (by omega))]
      show gR (sR G7 1 (A 28) _) 0 (A 28) = _
      rw [gR_sR, if_neg (fun z => absurd z.1 (by omega))]
      exact r0
    · show gR (sR (sI (sR G7 1 (A 28) _) 2 (A 28) 0) 582 (A 0) (some (A 28))) 1 (A 28) = _
      rw [gR_sR, if_neg (fun z => absurd z.1 (by omega))]
      show gR (sR G7 1 (A 28) _) 1 (A 28) = _
      rw [← e30]; exact gR_sR_eq
  have n583 : gI G11 583 (A 0) = 0 := by rw [hG11]; exact gI_eq
  have n2 : gI G11 2 (A 28) = 0 := by
    rw [hG11, gI_ne (by decide)]
    show gI (sI (sR G7 1 (A 28) _) 2 (A 28) 0) 2 (A 28) = 0
    exact gI_eq
  have hT : TpS (sI (sI (sI G11 584 (A 0) 0) 585 (A 0) 0) 586 (A 0) 1) A (0, 0, 0, 1) := by
    refine ⟨?_, ?_, ?_, gI_eq⟩
    · rw [gI_ne (by decide), gI_ne (by decide), gI_ne (by decide)]; exact n583
    · rw [gI_ne (by decide), gI_ne (by decide), gI_eq]
    · rw [gI_ne (by decide), gI_eq]
  have hB2 : gI (sI (sI (sI G11 584 (A 0) 0) 585 (A 0) 0) 586 (A 0) 1) 2 (A 28) = 0 := by
    rw [gI_ne (by decide), gI_ne (by decide), gI_ne (by decide)]; exact n2
  have zL : gz (sI (sI (sI G11 584 (A 0) 0) 585 (A 0) 0) 586 (A 0) 1) = gz G7 := by subst hG11; rfl
  have qL : gs (sI (sI (sI G11 584 (A 0) 0) 585 (A 0) 0) 586 (A 0) 1) = gs G7 := by subst hG11; rfl
  have gAL : ∀ a j, gA (sI (sI (sI G11 584 (A 0) 0) 585 (A 0) 0) 586 (A 0) 1) a j = gA G7 a j := by subst hG11; exact fun _ _ => rfl
  have hov7 := hI7.2.2.1
  have hIL : IP E (sI (sI (sI G11 584 (A 0) 0) 585 (A 0) 0) 586 (A 0) 1) oo7 A 6 6 := hI7.stp (lo := 28) hA sL (by intro j hj; simp at hj; omega) (by omega) (fun i hi => by rw [rL, if_neg (by omega)]) (by rw [zL]; exact hov7)
  generalize sI (sI (sI G11 584 (A 0) 0) 585 (A 0) 0) 586 (A 0) 1 = GL at *
  obtain ⟨l1, l2, l3, l4, l5, l6, l7, l8, l9, l10, l11, l12⟩ := hIL
  obtain ⟨j1, j2, j3⟩ := l7 (by omega)
  have r582 : gR GL 582 (A 0) = some (A 28) := by rw [rL]; exact if_pos rfl
  refine k GL oo7 ⟨fun _ => [], 0, 0, 0, 0, 0, ⟨l1, ⟨l4, l5, j1, j2, l6 0 (by omega), l6 1 (by omega), l6 2 (by omega), l6 3 (by omega), l6 4 (by omega), l6 5 (by omega), r582⟩, j3, hT, ⟨⟨sL.tg' hI7.1 t7 (by omega), o7, rB.1, rB.2, ⟨(sL.tg (by omega)).trans b29.1, (sL.ln (by omega)).trans b29.2.1, b29.2.2.1⟩, (sL.tg (by omega)).trans a30.1, (sL.ln (by omega)).trans a30.2.1, a30.2.2.1⟩, fun s hs => ⟨(gAL _ _).trans (b29.2.2.2 s), (gAL _ _).trans (a30.2.2.2 s)⟩, hB2⟩, l8 (by omega), l9 (by omega), l10 (by omega), l11 (by omega), l12 (by omega)⟩, rfl⟩ ((toRA s2 (by decide)).tr ((toRA sI7 (by decide)).tr (toRA sL (by decide)))) (by omega) (by omega) l2
/-- the sink, the history, the two records of progress -/
theorem init_E {G : GH} {o A : Nat → Nat} (hA : InjA A) (h : IP E G o A 5 4) (h23 : A 23 < gz G) (h26 : A 26 = gz G) (h27 : A 27 = gz G + 1)
    (k : ∀ G' o', IP E G' o' A 6 5 → Stq (RA A) G o G' o' → gz G' = gz G + 2 → gs G' = gs G + 7 → J E 6 m_St_init 94 [some (.ref (A 0))] [.ref (A 26), .ref (A 0)] G' Post) : J E 6 m_St_init 83 [some (.ref (A 0))] [.ref (A 23), .ref (A 0)] G Post := by
  refine wp_St_init_83 (A 0) (A 0) (A 23) ⟨h.2.2.2.1, fun G2 hG2 => ?_⟩
  obtain ⟨hI, s2, t2, o2, z2, q2⟩ := h.next (lo := 26) (t := 6) (n := 4) hA h23 (by omega) G2 hG2
  generalize uo o (gz G) (gz G) = oo2 at *
  rw [← h26] at t2 o2 ⊢
  refine c_Si_init hI.1 hI.2.1 t2 o2 (fun G3 o3 s3 y z3 q3 em => k G3 o3 ?_ ((toRA s2 (by decide)).tr (toRA (js := [26]) s3 (by decide))) (by omega) (by omega))
  have e27 : gz G2 = A 27 := by omega
  rw [e27] at y
  have hI' : IP E G3 o3 A 5 5 := hI.stp (lo := 26) (js := [26]) hA s3 (by intro j hj; simp at hj; omega) (by omega) (fun i _ => ?_) (fun q hq => ?_)
  · obtain ⟨l1, l2, l3, l4, l5, l6, l7, l8, l9, l10, l11, -⟩ := hI'
    exact ⟨l1, l2, l3, l4, l5, l6, fun _ => l7 (by omega), fun _ => l8 (by omega), fun _ => l9 (by omega), fun _ => l10 (by omega), fun _ => l11 (by omega), fun _ => ⟨[], y, rfl, by simp⟩⟩
  · have hz0 := hI.1 (A 0) (by rw [hI.2.2.2.1]; omega)
    exact (s3.sm hz0 (by rw [hI.2.2.2.2.1]; exact hA.n1 (i := 0) (j := 26) (by omega) (by omega) (by omega))).2.2.2.1 _
  · by_cases c : q < gz G2
    · rw [s3.ow c]; have := hI.2.2.1 q c; omega
    · have c1 : q = A 27 := by omega
      obtain ⟨-, -, -, -, -, -, -, -, -, c3, l3, -⟩ := y
      rw [c1, l3.ow]; omega
theorem init_D {G : GH} {o A : Nat → Nat} (hA : InjA A) (h : IP E G o A 4 3) (h16 : A 16 < gz G) (h23 : A 23 = gz G) (h24 : A 24 = gz G + 1) (h25 : A 25 = gz G + 2)
    (k : ∀ G' o', IP E G' o' A 5 4 → Stq (RA A) G o G' o' → gz G' = gz G + 3 → gs G' = gs G + 13 → J E 6 m_St_init 83 [some (.ref (A 0))] [.ref (A 23), .ref (A 0)] G' Post) : J E 6 m_St_init 72 [some (.ref (A 0))] [.ref (A 16), .ref (A 0)] G Post := by
  refine wp_St_init_72 (A 0) (A 0) (A 16) ⟨h.2.2.2.1, fun G2 hG2 => ?_⟩
  obtain ⟨hI, s2, t2, o2, z2, q2⟩ := h.next (lo := 23) (t := 3) (n := 4) hA h16 (by omega) G2 hG2
  generalize uo o (gz G) (gz G) = oo2 at *
  rw [← h23] at t2 o2 ⊢
  refine c_Hi_init hI.1 hI.2.1 t2 o2 (fun G3 o3 s3 y z3 q3 em => k G3 o3 ?_ ((toRA s2 (by decide)).tr (toRA (js := [23]) s3 (by decide))) (by omega) (by omega))
  have e24 : gz G2 = A 24 := by omega
  have e25 : A 24 + 1 = A 25 := by omega
  rw [e24, e25] at y
  have hI' : IP E G3 o3 A 4 4 := hI.stp (lo := 23) (js := [23]) hA s3 (by intro j hj; simp at hj; omega) (by omega) (fun i _ => ?_) (fun q hq => ?_)
  · obtain ⟨l1, l2, l3, l4, l5, l6, l7, l8, l9, l10, -, -⟩ := hI'
    exact ⟨l1, l2, l3, l4, l5, l6, fun _ => l7 (by omega), fun _ => l8 (by omega), fun _ => l9 (by omega), fun _ => l10 (by omega), fun _ => ⟨y, fun y hy => absurd hy List.not_mem_nil⟩, fun z => absurd z (by omega)⟩
  · have hz0 := hI.1 (A 0) (by rw [hI.2.2.2.1]; omega)
    exact (s3.sm hz0 (by rw [hI.2.2.2.2.1]; exact hA.n1 (i := 0) (j := 23) (by omega) (by omega) (by omega))).2.2.2.1 _
  · by_cases c : q < gz G2
    · rw [s3.ow c]; have := hI.2.2.1 q c; omega
    · have c1 : q = A 24 ∨ q = A 25 := by omega
      obtain ⟨-, -, -, -, -, -, -, y8, -, l3, -⟩ := y
      rcases c1 with c1 | c1
      · rw [c1, l3.ow]; omega
      · rw [c1, y8]; omega
theorem pg_ow {G3 : GH} {o3 A : Nat → Nat} {b q : Nat} {P : PG} {p : Nat} (y : PgS E G3 o3 A b P p) (hw : Wf G3) (hq : q = A (b + 1) ∨ q = A (b + 2) ∨ q = A (b + 3) ∨ q = A (b + 4) ∨ q = A (b + 5) ∨ q = A (b + 6)) : o3 q < gz G3 := by
  obtain ⟨⟨a1, a2, -, -, -, -, a3, a4, a5, -⟩, -, -, -, -, -, rows, spare, ⟨b1, b2, -, -, -, -, cr, cp, b3, b4, -⟩, -⟩ := y
  have z := hw (A b) (by omega)
  rcases hq with e | e | e | e | e | e <;> rw [e]
  · rw [a3.2.2]; exact z
  · rw [a4.2.2]; exact z
  · rw [a5.2.2]; exact z
  · rw [b2]; exact hw _ (by omega)
  · rw [b3.ow]; exact hw _ (by rw [b3.tg]; omega)
  · rw [b4.ow]; exact hw _ (by rw [b4.tg]; omega)
theorem init_C {G : GH} {o A : Nat → Nat} (hA : InjA A) (h : IP E G o A 3 2) (h9 : A 9 < gz G) (h16 : A 16 = gz G) (h17 : A 17 = gz G + 1) (h18 : A 18 = gz G + 2) (h19 : A 19 = gz G + 3) (h20 : A 20 = gz G + 4) (h21 : A 21 = gz G + 5) (h22 : A 22 = gz G + 6)
    (k : ∀ G' o', IP E G' o' A 4 3 → Stq (RA A) G o G' o' → gz G' = gz G + 7 → gs G' = gs G + 25 → J E 6 m_St_init 72 [some (.ref (A 0))] [.ref (A 16), .ref (A 0)] G' Post) : J E 6 m_St_init 61 [some (.ref (A 0))] [.ref (A 9), .ref (A 0)] G Post := by
  refine wp_St_init_61 (A 0) (A 0) (A 9) ⟨h.2.2.2.1, fun G2 hG2 => ?_⟩
  obtain ⟨hI, s2, t2, o2, z2, q2⟩ := h.next (lo := 16) (t := 5) (n := 8) hA h9 (by omega) G2 hG2
  generalize uo o (gz G) (gz G) = oo2 at *
  rw [← h16] at t2 o2 ⊢
  refine c_Pr_init (b := 16) hI.1 hI.2.2.1 hI.2.1 t2 o2 (show A 17 = gz G2 by omega) (show A 18 = gz G2 + 1 by omega) (show A 19 = gz G2 + 2 by omega) (show A 20 = gz G2 + 3 by omega) (show A 21 = gz G2 + 4 by omega) (show A 22 = gz G2 + 5 by omega) (fun G3 o3 s3 y z3 q3 em => k G3 o3 ?_ ((toRA s2 (by decide)).tr (toRA (js := [16]) s3 (by decide))) (by omega) (by omega))
  have hI' : IP E G3 o3 A 3 3 := hI.stp (lo := 16) (js := [16]) hA s3 (by intro j hj; simp at hj; omega) (by omega) (fun i _ => ?_) (fun q hq => ?_)
  · obtain ⟨l1, l2, l3, l4, l5, l6, l7, l8, l9, -, -, -⟩ := hI'
    exact ⟨l1, l2, l3, l4, l5, l6, fun _ => l7 (by omega), fun _ => l8 (by omega), fun _ => l9 (by omega), fun _ => y, fun z => absurd z (by omega), fun z => absurd z (by omega)⟩
  · have hz0 := hI.1 (A 0) (by rw [hI.2.2.2.1]; omega)
    exact (s3.sm hz0 (by rw [hI.2.2.2.2.1]; exact hA.n1 (i := 0) (j := 16) (by omega) (by omega) (by omega))).2.2.2.1 _
  · by_cases c : q < gz G2
    · rw [s3.ow c]; have := hI.2.2.1 q c; omega
    · exact pg_ow (b := 16) y s3.wf (show q = A 17 ∨ q = A 18 ∨ q = A 19 ∨ q = A 20 ∨ q = A 21 ∨ q = A 22 by omega)
/-- the sources -/
def SoP (E : EV) (G : GH) (o A : Nat → Nat) (n : Nat) : Prop := gT G (A 2) = 24 ∧ gN G (A 2) = 3 ∧ o (A 2) = A 2 ∧ (∀ s, s < n → gT G (A (3 + s)) = 7 ∧ o (A (3 + s)) = A (3 + s) ∧ gR G 384 (A (3 + s)) = some (A (6 + s)) ∧ gI G 385 (A (3 + s)) = 0 ∧ gI G 386 (A (3 + s)) = 0 ∧ LA E G o (A (6 + s)) [] 0) ∧ ∀ s, s + 1 < n → gO G (A 2) s = some (A (3 + s))
theorem SoP.stp {G G' : GH} {o o' A : Nat → Nat} {n : Nat} {S : List Nat} (h : SoP E G o A n) (hw : Wf G) (s : Stq S G o G' o') (h2 : A 2 ∉ S) (h3 : ∀ j, j < n → A (3 + j) ∉ S ∧ A (6 + j) ∉ S) : SoP E G' o' A n := by
  obtain ⟨a1, a2, a3, a4, a5⟩ := h
  have z2 := hw (A 2) (by omega)
  have q := s.sm z2 (by rw [a3]; exact h2)
  refine ⟨q.1.trans a1, q.2.1.trans a2, (s.ow z2).trans a3, fun j hj => ?_, fun j hj => (q.2.2.2.2.2.1 j).trans (a5 j hj)⟩
  obtain ⟨b1, b2, b3, b4, b5, b6⟩ := a4 j hj
  have z := hw (A (3 + j)) (by omega)
  have r := s.sm z (by rw [b2]; exact (h3 j hj).1)
  exact ⟨r.1.trans b1, (s.ow z).trans b2, (r.2.2.2.1 _).trans b3, (r.2.2.1 _).trans b4, (r.2.2.1 _).trans b5, b6.stp hw s (h3 j hj).2⟩
/-- behind a source's constructor -/
theorem SoP.add {G G3 : GH} {o o3 A : Nat → Nat} {n : Nat} (hA : InjA A) (hn : n < 3) (h : SoP E G o A n) (hO : ∀ s, s < n → gO G (A 2) s = some (A (3 + s))) (hw : Wf G) (ht : gT G (A (3 + n)) = 7) (ho : o (A (3 + n)) = A (3 + n)) (s : Stq [A (3 + n)] G o G3 o3) (hl : LA E G3 o3 (A (6 + n)) [] 0) (h4 : gR G3 384 (A (3 + n)) = some (A (6 + n))) (h5 : gI G3 385 (A (3 + n)) = 0) (h6 : gI G3 386 (A (3 + n)) = 0) : SoP E G3 o3 A (n + 1) := by
  have h' := h.stp hw s (hA.n1 (i := 2) (j := 3 + n) (by omega) (by omega) (by omega)) (fun j hj => ⟨hA.n1 (by omega) (by omega) (by omega), hA.n1 (by omega) (by omega) (by omega)⟩)
  obtain ⟨a1, a2, a3, a4, a5⟩ := h'
  have q := s.sm (hw (A 2) (by rw [h.1]; omega)) (by rw [h.2.2.1]; exact hA.n1 (i := 2) (j := 3 + n) (by omega) (by omega) (by omega))
  refine ⟨a1, a2, a3, fun j hj => ?_, fun j hj => (q.2.2.2.2.2.1 j).trans (hO j (by omega))⟩
  by_cases c : j = n
  · subst c
    exact ⟨s.tg' hw ht (by omega), (s.ow (hw _ (by omega))).trans ho, h4, h5, h6, hl⟩
  · exact a4 j (by omega)
/-- the next source is made -/
theorem src_next {G : GH} {o A : Nat → Nat} {n t k : Nat} (hA : InjA A) (hn : n < 3) (h : IP E G o A 1 1) (h' : SoP E G o A (n + 1)) :
    ∀ G2, G2 = al (sO G (A 2) n (some (A (3 + n)))) t k → IP E G2 (uo o (gz G) (gz G)) A 1 1 ∧ SoP E G2 (uo o (gz G) (gz G)) A (n + 1) ∧ (∀ s, s < n + 1 → gO G2 (A 2) s = some (A (3 + s))) ∧ Stq ([2].map A) G o G2 (uo o (gz G) (gz G)) ∧ gT G2 (gz G) = t ∧ uo o (gz G) (gz G) (gz G) = gz G ∧ gz G2 = gz G + 1 ∧ gs G2 = gs G + k := by
  intro G2 hG
  obtain ⟨h1, h2, h3, h4, h5, h6, -⟩ := id h
  have z0 := h1 (A 2) (by rw [h'.1]; omega)
  have s1 : Stq ([2].map A) G o (sO G (A 2) n (some (A (3 + n)))) o := (Stq.rf h1).wO (fun _ => by rw [h'.2.2.1]; exact in1)
  have s2 : Stq ([2].map A) G o G2 (uo o (gz G) (gz G)) := hG ▸ s1.al (gz G)
  have hov : ∀ q, q < gz G2 → uo o (gz G) (gz G) q < gz G2 := fun q hq => by
    have zz : gz G2 = gz G + 1 := by rw [hG]; rfl
    by_cases c : q = gz G
    · rw [c, uo_eq]; omega
    · rw [uo_ne c]; have := h3 q (by omega); omega
  have hI := h.stp (lo := 2) hA s2 (by intro j hj; simp at hj; omega) (by omega) (fun i _ => (s2.sm (h1 (A 0) (by omega)) (by rw [h5]; exact hA.n1 (i := 0) (j := 2) (by omega) (by omega) (by omega))).2.2.2.1 _) hov
  have hO : ∀ s, gO G2 (A 2) s = if s = n then some (A (3 + n)) else gO G (A 2) s := fun s => by
    rw [hG, gO_al, if_neg (by show A 2 ≠ gz G; omega), gO_sO]
    by_cases c : s = n
    · rw [if_pos ⟨rfl, c⟩, if_pos c]
    · rw [if_neg (fun z => c z.2), if_neg c]
  have hO' : ∀ s, s < n + 1 → gO G2 (A 2) s = some (A (3 + s)) := fun s hs => by
    rw [hO]
    by_cases c : s = n
    · rw [if_pos c, c]
    · rw [if_neg c]; exact h'.2.2.2.2 s (by omega)
  have z2 := h1 (A 2) (by rw [h'.1]; omega)
  refine ⟨hI, ⟨(s2.tg z2).trans h'.1, (s2.ln z2).trans h'.2.1, (s2.ow z2).trans h'.2.2.1, fun j hj => ?_, fun j hj => hO' j (by omega)⟩, hO', s2, by rw [hG]; exact if_pos rfl, uo_eq, by rw [hG]; rfl, by rw [hG]; rfl⟩
  obtain ⟨b1, b2, b3, b4, b5, b6⟩ := h'.2.2.2.1 j hj
  have z := h1 (A (3 + j)) (by omega)
  have r := s2.sm z (by rw [b2]; exact hA.n1 (i := 3 + j) (j := 2) (by omega) (by omega) (by omega))
  exact ⟨r.1.trans b1, (s2.ow z).trans b2, (r.2.2.2.1 _).trans b3, (r.2.2.1 _).trans b4, (r.2.2.1 _).trans b5, b6.stp h1 s2 (hA.n1 (i := 6 + j) (j := 2) (by omega) (by omega) (by omega))⟩
theorem src_ov {G G3 : GH} {o o3 : Nat → Nat} {a l : Nat} (h : ∀ q, q < gz G → o q < gz G) (s : Stq [a] G o G3 o3) (hz : gz G3 = gz G + 1) (hl : o3 l = l) (e : l = gz G) : ∀ q, q < gz G3 → o3 q < gz G3 := fun q hq => by
  by_cases c : q < gz G
  · rw [s.ow c]; have := h q c; omega
  · have : q = l := by omega
    rw [this, hl]; omega
/-- all three -/
theorem SoP.all {G : GH} {o A : Nat → Nat} (h : SoP E G o A 3) (hO : ∀ s, s < 3 → gO G (A 2) s = some (A (3 + s))) : SoS E G o A (fun _ => []) sc0 0 := by
  obtain ⟨a1, a2, a3, a4, a5⟩ := h
  refine ⟨a1, a2, a3, fun s hs => ?_, fun _ => 0, fun s hs => (a4 s hs).2.2.2.2.2, rfl⟩
  obtain ⟨b1, b2, b3, b4, b5, b6⟩ := a4 s hs
  exact ⟨hO s hs, b1, b2, b3, b4, b5, rfl, by simp, List.nodup_nil, fun i e he => by simp at he⟩
end INIT3
