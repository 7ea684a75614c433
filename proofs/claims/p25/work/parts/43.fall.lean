theorem subA {A : Nat → Nat} {js ks : List Nat} (h : ∀ j ∈ js, j ∈ ks) : ∀ z, z ∈ js.map A → z ∈ ks.map A := fun z hz => by
  obtain ⟨j, hj1, hj2⟩ := List.mem_map.mp hz
  exact List.mem_map.mpr ⟨j, h j hj1, hj2⟩
/-- what is prepared is committed -/
def comS (x : XS) : XS := (cJ x, cS x, cN x, cP x, (hL (cH x), gHl (cP x), gMk (cP x)), (kL (cK x), kP (cK x), kP (cK x)), cB x, (tB (cT x), tS (cT x), 0, tW (cT x)))
theorem com_heap {E : EV} {G : GH} {o A : Nat → Nat} {x : XS} {ea : Nat → List Nat} {p1 p2 p3 p4 p5 : Nat} (hA : InjA A) (h : StO E G o A ea x p1 p2 p3 p4 p5) :
    ∀ G', G' = sI (sI (sI (sI G 321 (A 26) (gI G 322 (A 26))) 129 (A 23) (gI G 260 (A 16))) 130 (A 23) (gI G 259 (A 16))) 585 (A 0) 0 → StO E G' o A ea (comS x) p1 p2 p3 p4 p5 ∧ Stq ([0, 23, 26].map A) G o G' o ∧ gz G' = gz G ∧ gs G' = gs G := by
  intro G' hG
  obtain ⟨hw, hR, hJ, hT, hB, hSo, hPg, hPs, hHi, hSi⟩ := id h
  obtain ⟨rows, d1, d2, d3⟩ := id hSi
  have o0 : o (A 0) ∈ [0, 23, 26].map A := by rw [hR.2.1]; exact List.mem_map.mpr ⟨0, by decide, rfl⟩
  have o23 : o (A 23) ∈ [0, 23, 26].map A := by rw [hHi.1.2.1]; exact List.mem_map.mpr ⟨23, by decide, rfl⟩
  have o26 : o (A 26) ∈ [0, 23, 26].map A := by rw [d1.2.1]; exact List.mem_map.mpr ⟨26, by decide, rfl⟩
  have s : Stq ([0, 23, 26].map A) G o G' o := hG ▸ ((((Stq.rf hw).wI (fun _ => o26)).wI (fun _ => o23)).wI (fun _ => o23)).wI (fun _ => o0)
  have f := h.fr hA s (by decide)
  have e1 : gI G 322 (A 26) = nI (kP (cK x)) := d1.2.2.2.2.1
  have hs := d1.sets (G' := G') (cm' := nI (kP (cK x))) (pr' := nI (kP (cK x))) (n' := (kL (cK x)).length) hw s (hA.nm (i := 27) (by omega) (by decide)) (by subst hG; exact fun _ => rfl) (fun q hq => by
      subst hG
      exact (((sI_sm (fun z => by rw [z, d1.1] at hq; omega)).tr (sI_sm (fun z => by rw [z, hHi.1.1] at hq; omega))).tr (sI_sm (fun z => by rw [z, hHi.1.1] at hq; omega))).tr (sI_sm (fun z => by rw [z, hR.1] at hq; omega))) (by subst hG; rw [gI_ne (by decide), gI_ne (by decide), gI_ne (by decide), gI_eq, e1]) (by subst hG; rw [gI_ne (by decide), gI_ne (by decide), gI_ne (by decide), gI_ne (by decide), e1]) (by subst hG; rw [gI_ne (by decide), gI_ne (by decide), gI_ne (by decide), gI_ne (by decide)]; exact d1.2.2.2.2.2.1) d1.2.2.2.2.2.2.1
  have hh := hHi.1.sets (G' := G') (cl' := gHl (cP x)) (cw' := gMk (cP x)) hw s (hA.nm (i := 24) (by omega) (by decide)) (by subst hG; exact fun _ => rfl) (by subst hG; rw [gI_ne (by decide), gI_ne (by decide), gI_eq]; exact hPs.2.2.2.1) (by subst hG; rw [gI_ne (by decide), gI_eq]; exact hPs.2.2.1)
  refine ⟨⟨s.wf, hR.stp hw s (by subst hG; exact fun _ => rfl), f.2.1 (by decide), ⟨?_, ?_, ?_, ?_⟩, f.2.2.1 (by decide), f.2.2.2.1 (by decide), f.2.2.2.2.1 (by decide), f.2.2.2.2.2.1 (by decide), ⟨hh, hHi.2⟩, rows, hs.1, (hs.2 _).trans d2, d3⟩, s, by subst hG; rfl, by subst hG; rfl⟩
  · subst hG; rw [gI_ne (by decide), gI_ne (by decide), gI_ne (by decide), gI_ne (by decide)]; exact hT.1
  · subst hG; rw [gI_ne (by decide), gI_ne (by decide), gI_ne (by decide), gI_ne (by decide)]; exact hT.2.1
  · subst hG; rw [gI_eq]; rfl
  · subst hG; rw [gI_ne (by decide), gI_ne (by decide), gI_ne (by decide), gI_ne (by decide)]; exact hT.2.2.2
/-- all as at the last snapshot -/
def fall0 (x : XS) : XS := (cJ x, cS x, cP x, cP x, ((hL (cH x)).take (gHl (cP x)), gHl (cP x), gMk (cP x)), ((kL (cK x)).take (kP (cK x)), kP (cK x), kP (cK x)), (bA (cB x), bT (cB x), 0), (tB (cT x), tS (cT x), 0, tW (cT x)))
def fallS (x : XS) : XS := lookS (fall0 x)
theorem c_fallS {E : EV} {G : GH} {Post : Res → GH → Prop} {o A : Nat → Nat} {x : XS} {p : Nat} (hA : InjA A) (h : StS E G o A x p) (hk : kP (cK x) ≤ (kL (cK x)).length) (hh : gHl (cP x) ≤ 2999) (hn : kP (cK x) + (gWi (cP x)).length ≤ 2900)
    (k : ∀ G' o' p', StS E G' o' A (fallS x) p' → Stq ([0, 9, 13, 14, 15, 23, 24, 26, 27, 28].map A) G o G' o' → Cs G p G' p' → Post (.inl none) G') : Cl E 10 m_St_fallBack [.ref (A 0)] G Post := by
  obtain ⟨ea, p1, p2, p3, p4, p5, h, hp⟩ := h
  obtain ⟨hw, hR, hJ, hT, hB, hSo, hPg, hPs, hHi, hSi⟩ := id h
  obtain ⟨r1, r2, r3, r4, r5, r6, r7, r8, r9, r10, r11⟩ := id hR
  obtain ⟨rows0, u1, u2, u3⟩ := id hSi
  refine j_enter (L := [some (.ref (A 0))]) me_St_fallBack (cat_c rfl cat_n) (Nat.le_of_ble_eq_true rfl) rfl (wp_St_fallBack_0 (A 0) ⟨r1, A 26, r10, u1.1, A 23, r9, A 16, r8, hPs.1.1, hHi.1.1, fun G1 hG1 => ?_⟩)
  obtain ⟨h1, s1, z1, z1'⟩ := com_heap hA h G1 hG1
  obtain ⟨hw1, hR1, hJ1, hT1, hB1, hSo1, hPg1, hPs1, hHi1, hSi1⟩ := id h1
  obtain ⟨rows, d1, d2, d3⟩ := id hSi1
  refine ⟨A 9, r7, hPg.1.1, ?_⟩
  have e1 : gI G 322 (A 26) = nI (kP (cK x)) := u1.2.2.2.2.1
  rw [e1]
  have s2 : Stq ([26].map A) G1 o (sI G1 323 (A 26) (nI (kP (cK x)))) o := (Stq.rf hw1).wI (fun _ => by rw [d1.2.1]; exact in1)
  have f2 := h1.fr hA s2 (by decide)
  have hln : (kL (cK x)).length ≤ rows.length := d1.2.2.2.2.2.2.1
  have hs := d1.sets (cm' := nI (kP (cK x))) (pr' := nI (kP (cK x))) (n' := ((kL (cK x)).take (kP (cK x))).length) hw1 s2 (hA.nm (i := 27) (by omega) (by decide)) (fun _ => rfl) (fun q hq => sI_sm (fun z => by rw [z, d1.1] at hq; omega)) ((gI_ne (by decide)).trans d1.2.2.2.1) ((gI_ne (by decide)).trans d1.2.2.2.2.1) (by rw [gI_eq, List.length_take, Nat.min_eq_left hk]) (by rw [List.length_take]; omega)
  have hrec : recs (sI G1 323 (A 26) (nI (kP (cK x)))) rows ((kL (cK x)).take (kP (cK x))).length = (kL (cK x)).take (kP (cK x)) := by
    rw [hs.2, List.length_take, Nat.min_eq_left hk]
    have e2 : recs G1 rows (kL (cK x)).length = kL (cK x) := d2
    rw [← e2]
    unfold recs
    rw [List.map_take, List.map_take, List.take_take, Nat.min_eq_left hk]
  have h2 : StO E (sI G1 323 (A 26) (nI (kP (cK x)))) o A ea (cJ x, cS x, cN x, cP x, (hL (cH x), gHl (cP x), gMk (cP x)), ((kL (cK x)).take (kP (cK x)), kP (cK x), kP (cK x)), cB x, (tB (cT x), tS (cT x), 0, tW (cT x))) p1 p2 p3 p4 p5 :=
    ⟨s2.wf, (f2.1 (by decide)).1, f2.2.1 (by decide), (f2.1 (by decide)).2, f2.2.2.1 (by decide), f2.2.2.2.1 (by decide), f2.2.2.2.2.1 (by decide), f2.2.2.2.2.2.1 (by decide), f2.2.2.2.2.2.2.1 (by decide), rows, hs.1, hrec, d3⟩
  have z2 : gz (sI G1 323 (A 26) (nI (kP (cK x)))) = gz G := z1
  have z2' : gs (sI G1 323 (A 26) (nI (kP (cK x)))) = gs G := z1'
  generalize sI G1 323 (A 26) (nI (kP (cK x))) = G2 at *
  refine c_copyPg (b := 9) (c := 16) hA (by omega) (by omega) (by omega) h2.1 h2.2.2.2.2.2.2.1 h2.2.2.2.2.2.2.2.1 (fun G3 o3 q2 y1 s3 c3 => ?_)
  have s3' : Stq ([9, 13, 14, 15].map A) G2 o G3 o3 := s3
  have f3 := h2.fr hA s3' (by decide)
  have h3 : StO E G3 o3 A ea (cJ x, cS x, cP x, cP x, (hL (cH x), gHl (cP x), gMk (cP x)), ((kL (cK x)).take (kP (cK x)), kP (cK x), kP (cK x)), cB x, (tB (cT x), tS (cT x), 0, tW (cT x))) p1 q2 p3 p4 p5 :=
    ⟨s3.wf, (f3.1 (by decide)).1, f3.2.1 (by decide), (f3.1 (by decide)).2, f3.2.2.1 (by decide), f3.2.2.2.1 (by decide), y1, f3.2.2.2.2.2.1 (by decide), f3.2.2.2.2.2.2.1 (by decide), f3.2.2.2.2.2.2.2 (by decide)⟩
  obtain ⟨hw3, hR3, hJ3, hT3, hB3, hSo3, hPg3, hPs3, hHi3, hSi3⟩ := id h3
  refine wp_St_fallBack_29 (A 0) ⟨hR3.1, A 23, hR3.2.2.2.2.2.2.2.2.1, A 9, hR3.2.2.2.2.2.2.1, hPg3.1.1, hHi3.1.1, ?_⟩
  have e3 : gI G3 260 (A 9) = nI (gHl (cP x)) := hPg3.2.2.2.1
  rw [e3]
  refine c_Hi_cutTo hh hHi3.1 hw3 (fun G4 y4 s4 z4 z4' => ?_)
  have s4' : Stq ([24].map A) G3 o3 G4 o3 := s4
  have f4 := h3.fr hA s4' (by decide)
  have h4 : StO E G4 o3 A ea (cJ x, cS x, cP x, cP x, ((hL (cH x)).take (gHl (cP x)), gHl (cP x), gMk (cP x)), ((kL (cK x)).take (kP (cK x)), kP (cK x), kP (cK x)), cB x, (tB (cT x), tS (cT x), 0, tW (cT x))) p1 q2 p3 p4 p5 :=
    ⟨s4.wf, (f4.1 (by decide)).1, f4.2.1 (by decide), (f4.1 (by decide)).2, f4.2.2.1 (by decide), f4.2.2.2.1 (by decide), f4.2.2.2.2.1 (by decide), f4.2.2.2.2.2.1 (by decide), ⟨by rw [← List.map_take] at y4; exact y4, fun z hz => hHi3.2 z (List.mem_of_mem_take hz)⟩, f4.2.2.2.2.2.2.2 (by decide)⟩
  obtain ⟨hw4, hR4, hJ4, hT4, hB4, hSo4, hPg4, hPs4, hHi4, hSi4⟩ := id h4
  refine wp_St_fallBack_43 (A 0) ⟨hR4.1, A 28, hR4.2.2.2.2.2.2.2.2.2.2, hB4.1.1, ?_⟩
  have s5 : Stq ([28].map A) G4 o3 (sI G4 2 (A 28) 0) o3 := (Stq.rf hw4).wI (fun _ => by rw [hB4.1.2.1]; exact in1)
  have f5 := h4.fr hA s5 (by decide)
  have h5 : StO E (sI G4 2 (A 28) 0) o3 A ea (fall0 x) p1 q2 p3 p4 p5 :=
    ⟨s5.wf, (f5.1 (by decide)).1, f5.2.1 (by decide), (f5.1 (by decide)).2, ⟨hB4.1.stp hw4 s5 (fun _ => rfl), fun j hj => hB4.2.1 j hj, gI_eq⟩, f5.2.2.2.1 (by decide), f5.2.2.2.2.1 (by decide), f5.2.2.2.2.2.1 (by decide), f5.2.2.2.2.2.2.1 (by decide), f5.2.2.2.2.2.2.2 (by decide)⟩
  refine c_lookS hA ⟨ea, _, _, _, _, _, h5, rfl⟩ ?_ (fun G6 o6 p6 y6 s6 c6 => wp_St_fallBack_55 (k G6 o6 p6 y6 ?_ ?_))
  · show ((kL (cK x)).take (kP (cK x))).length + (gWi (cP x)).length ≤ 2900
    rw [List.length_take]; omega
  · have s2' : Stq ([26].map A) G1 o G2 o := s2
    exact (s1.mono (subA (by decide))).tr ((s2'.mono (subA (by decide))).tr ((s3'.mono (subA (by decide))).tr ((s4'.mono (subA (by decide))).tr ((s5.mono (subA (by decide))).tr (s6.mono (subA (by decide)))))))
  · have v1 := c3.1
    have v2 := c3.2
    have v3 := c6.1
    have v4 := c6.2
    have v5 : gz (sI G4 2 (A 28) 0) = gz G4 := rfl
    have v6 : gs (sI G4 2 (A 28) 0) = gs G4 := rfl
    exact ⟨by omega, by omega⟩
