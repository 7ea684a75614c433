section INIT4
variable {E : EV} {Post : Res → GH → Prop}
theorem src_put {G : GH} {o A : Nat → Nat} {n : Nat} (hA : InjA A) (hn : n < 3) (h : IP E G o A 1 1) (h' : SoP E G o A (n + 1)) :
    ∀ G2, G2 = sO G (A 2) n (some (A (3 + n))) → IP E G2 o A 1 1 ∧ SoP E G2 o A (n + 1) ∧ (∀ s, s < n + 1 → gO G2 (A 2) s = some (A (3 + s))) ∧ Stq ([2].map A) G o G2 o ∧ gz G2 = gz G ∧ gs G2 = gs G := by
  intro G2 hG
  obtain ⟨h1, h2, h3, h4, h5, h6, -⟩ := id h
  have z2 := h1 (A 2) (by rw [h'.1]; omega)
  have s2 : Stq ([2].map A) G o G2 o := hG ▸ (Stq.rf h1).wO (fun _ => by rw [h'.2.2.1]; exact in1)
  have zz : gz G2 = gz G := by rw [hG]; rfl
  have hI := h.stp (lo := 2) hA s2 (by intro j hj; simp at hj; omega) (by omega) (fun i _ => (s2.sm (h1 (A 0) (by omega)) (by rw [h5]; exact hA.n1 (i := 0) (j := 2) (by omega) (by omega) (by omega))).2.2.2.1 _) (by rw [zz]; exact h3)
  have hO : ∀ s, gO G2 (A 2) s = if s = n then some (A (3 + n)) else gO G (A 2) s := fun s => by
    rw [hG, gO_sO]
    by_cases c : s = n
    · rw [if_pos ⟨rfl, c⟩, if_pos c]
    · rw [if_neg (fun z => c z.2), if_neg c]
  have hO' : ∀ s, s < n + 1 → gO G2 (A 2) s = some (A (3 + s)) := fun s hs => by
    rw [hO]
    by_cases c : s = n
    · rw [if_pos c, c]
    · rw [if_neg c]; exact h'.2.2.2.2 s (by omega)
  refine ⟨hI, ⟨(s2.tg z2).trans h'.1, (s2.ln z2).trans h'.2.1, (s2.ow z2).trans h'.2.2.1, fun j hj => ?_, fun j hj => hO' j (by omega)⟩, hO', s2, zz, by rw [hG]; rfl⟩
  obtain ⟨b1, b2, b3, b4, b5, b6⟩ := h'.2.2.2.1 j hj
  have z := h1 (A (3 + j)) (by omega)
  have r := s2.sm z (by rw [b2]; exact hA.n1 (i := 3 + j) (j := 2) (by omega) (by omega) (by omega))
  exact ⟨r.1.trans b1, (s2.ow z).trans b2, (r.2.2.2.1 _).trans b3, (r.2.2.1 _).trans b4, (r.2.2.1 _).trans b5, b6.stp h1 s2 (hA.n1 (i := 6 + j) (j := 2) (by omega) (by omega) (by omega))⟩
theorem init_B2 {G : GH} {o A : Nat → Nat} (hA : InjA A) (h : IP E G o A 1 1) (hs : SoP E G o A 3) (h9 : A 9 = gz G) (h10 : A 10 = gz G + 1) (h11 : A 11 = gz G + 2) (h12 : A 12 = gz G + 3) (h13 : A 13 = gz G + 4) (h14 : A 14 = gz G + 5) (h15 : A 15 = gz G + 6)
    (k : ∀ G' o', IP E G' o' A 3 2 → Stq (RA A) G o G' o' → gz G' = gz G + 7 → gs G' = gs G + 25 → J E 6 m_St_init 61 [some (.ref (A 0))] [.ref (A 9), .ref (A 0)] G' Post) : J E 6 m_St_init 49 [some (.ref (A 0))] [.ref (A 5), .int 2, .ref (A 2), .ref (A 2), .ref (A 0)] G Post := by
  refine wp_St_init_49 (A 0) (A 0) (A 2) (A 2) 2 (A 5) ⟨hs.1, 2, ix3 (s := 2) (by omega) hs.2.1, (hs.2.2.2.1 2 (by omega)).1, h.2.2.2.1, fun G6 hG6 => ?_⟩
  obtain ⟨hI1, hs1, hO1, s1, z1, q1⟩ := src_put (n := 2) hA (by omega) h hs _ rfl
  have hso := SoP.all hs1 hO1
  obtain ⟨l1, l2, l3, l4, l5, l6, l7, -⟩ := id hI1
  have hI2 : IP E (sO G (A 2) 2 (some (A (3 + 2)))) o A 2 1 := ⟨l1, l2, l3, l4, l5, l6, fun _ => l7 (by omega), fun _ => hso, fun z => absurd z (by omega), fun z => absurd z (by omega), fun z => absurd z (by omega), fun z => absurd z (by omega)⟩
  have hlt : A 2 < gz (sO G (A 2) 2 (some (A (3 + 2)))) := l1 _ (by rw [hs1.1]; omega)
  have hG6' : G6 = al (sR (sO G (A 2) 2 (some (A (3 + 2)))) (576 + 1) (A 0) (some (A (rA 1)))) 5 8 := hG6
  clear hG6
  rw [show gz G = gz (sO G (A 2) 2 (some (A (3 + 2)))) from rfl] at h9 h10 h11 h12 h13 h14 h15 k ⊢
  rw [show gs G = gs (sO G (A 2) 2 (some (A (3 + 2)))) from rfl] at k
  generalize sO G (A 2) 2 (some (A (3 + 2))) = G1 at *
  obtain ⟨hI, s2, t2, o2, z2, q2⟩ := hI2.next (lo := 9) (t := 5) (n := 8) hA hlt (by omega) G6 hG6'
  generalize uo o (gz G1) (gz G1) = oo2 at *
  rw [← h9] at t2 o2 ⊢
  refine c_Pr_init (b := 9) hI.1 hI.2.2.1 hI.2.1 t2 o2 (show A 10 = gz G6 by omega) (show A 11 = gz G6 + 1 by omega) (show A 12 = gz G6 + 2 by omega) (show A 13 = gz G6 + 3 by omega) (show A 14 = gz G6 + 4 by omega) (show A 15 = gz G6 + 5 by omega) (fun G3 o3 s3 y z3 q3 em => k G3 o3 ?_ ((toRA s1 (by decide)).tr ((toRA s2 (by decide)).tr (toRA (js := [9]) s3 (by decide)))) (by omega) (by omega))
  have hI' : IP E G3 o3 A 2 2 := hI.stp (lo := 9) (js := [9]) hA s3 (by intro j hj; simp at hj; omega) (by omega) (fun i _ => ?_) (fun q hq => ?_)
  · obtain ⟨m1, m2, m3, m4, m5, m6, m7, m8, -, -, -, -⟩ := hI'
    exact ⟨m1, m2, m3, m4, m5, m6, fun _ => m7 (by omega), fun _ => m8 (by omega), fun _ => y, fun z => absurd z (by omega), fun z => absurd z (by omega), fun z => absurd z (by omega)⟩
  · have hz0 := hI.1 (A 0) (by rw [hI.2.2.2.1]; omega)
    exact (s3.sm hz0 (by rw [hI.2.2.2.2.1]; exact hA.n1 (i := 0) (j := 9) (by omega) (by omega) (by omega))).2.2.2.1 _
  · by_cases c : q < gz G6
    · rw [s3.ow c]; have := hI.2.2.1 q c; omega
    · exact pg_ow (b := 9) y s3.wf (show q = A 10 ∨ q = A 11 ∨ q = A 12 ∨ q = A 13 ∨ q = A 14 ∨ q = A 15 by omega)
/-- a source's constructor, in the chain -/
theorem src_init {G2 : GH} {oo2 A : Nat → Nat} {n : Nat} {Post' : Res → GH → Prop} (hA : InjA A) (hn : n < 3) (hI : IP E G2 oo2 A 1 1) (hs : SoP E G2 oo2 A n) (hO : ∀ s, s < n → gO G2 (A 2) s = some (A (3 + s))) (t2 : gT G2 (A (3 + n)) = 7) (o2 : oo2 (A (3 + n)) = A (3 + n)) (hl : A (6 + n) = gz G2)
    (k : ∀ G3 o3, IP E G3 o3 A 1 1 → SoP E G3 o3 A (n + 1) → Stq ([3 + n].map A) G2 oo2 G3 o3 → gz G3 = gz G2 + 1 → gs G3 = gs G2 + 3 → Post' (.inl none) G3) : Cl E 4 m_So_init [.ref (A (3 + n))] G2 Post' := by
  refine c_So_init hI.1 hI.2.1 t2 o2 (fun G3 o3 s3 l r4 r5 r6 z3 q3 em => k G3 o3 ?_ ?_ s3 z3 q3)
  · exact hI.stp (lo := 2) (js := [3 + n]) hA s3 (by intro j hj; simp at hj; omega) (by omega) (fun i _ => (s3.sm (hI.1 (A 0) (by rw [hI.2.2.2.1]; omega)) (by rw [hI.2.2.2.2.1]; exact hA.n1 (i := 0) (j := 3 + n) (by omega) (by omega) (by omega))).2.2.2.1 _) (src_ov hI.2.2.1 s3 z3 l.ow rfl)
  · rw [← hl] at l r4
    exact SoP.add hA hn hs hO hI.1 t2 o2 s3 l r4 r5 r6
theorem init_B1 {G : GH} {o A : Nat → Nat} (hA : InjA A) (h : IP E G o A 1 1) (hs : SoP E G o A 2) (h5 : A 5 = gz G) (h8 : A 8 = gz G + 1)
    (k : ∀ G' o', IP E G' o' A 1 1 → SoP E G' o' A 3 → Stq (RA A) G o G' o' → gz G' = gz G + 2 → gs G' = gs G + 6 → J E 6 m_St_init 49 [some (.ref (A 0))] [.ref (A 5), .int 2, .ref (A 2), .ref (A 2), .ref (A 0)] G' Post) : J E 6 m_St_init 39 [some (.ref (A 0))] [.ref (A 4), .int 1, .ref (A 2), .ref (A 2), .ref (A 0)] G Post := by
  refine wp_St_init_39 (A 0) (A 0) (A 2) (A 2) 1 (A 4) ⟨hs.1, 1, ix3 (s := 1) (by omega) hs.2.1, (hs.2.2.2.1 1 (by omega)).1, fun G2 hG2 => ?_⟩
  obtain ⟨hI, hs2, hO, s2, t2, o2, z2, q2⟩ := src_next (n := 1) hA (by omega) h hs G2 hG2
  generalize uo o (gz G) (gz G) = oo2 at *
  rw [← h5] at t2 o2 ⊢
  exact src_init (n := 2) hA (by omega) hI hs2 hO t2 o2 (show A 8 = gz G2 by omega) (fun G3 o3 y1 y2 y3 y4 y5 => k G3 o3 y1 y2 ((toRA s2 (by decide)).tr (toRA y3 (by decide))) (by omega) (by omega))
theorem init_B0 {G : GH} {o A : Nat → Nat} (hA : InjA A) (h : IP E G o A 1 1) (hs : SoP E G o A 1) (h4 : A 4 = gz G) (h7 : A 7 = gz G + 1)
    (k : ∀ G' o', IP E G' o' A 1 1 → SoP E G' o' A 2 → Stq (RA A) G o G' o' → gz G' = gz G + 2 → gs G' = gs G + 6 → J E 6 m_St_init 39 [some (.ref (A 0))] [.ref (A 4), .int 1, .ref (A 2), .ref (A 2), .ref (A 0)] G' Post) : J E 6 m_St_init 29 [some (.ref (A 0))] [.ref (A 3), .int 0, .ref (A 2), .ref (A 2), .ref (A 0)] G Post := by
  refine wp_St_init_29 (A 0) (A 0) (A 2) (A 2) 0 (A 3) ⟨hs.1, 0, ix3 (s := 0) (by omega) hs.2.1, (hs.2.2.2.1 0 (by omega)).1, fun G2 hG2 => ?_⟩
  obtain ⟨hI, hs2, hO, s2, t2, o2, z2, q2⟩ := src_next (n := 0) hA (by omega) h hs G2 hG2
  generalize uo o (gz G) (gz G) = oo2 at *
  rw [← h4] at t2 o2 ⊢
  exact src_init (n := 1) hA (by omega) hI hs2 hO t2 o2 (show A 7 = gz G2 by omega) (fun G3 o3 y1 y2 y3 y4 y5 => k G3 o3 y1 y2 ((toRA s2 (by decide)).tr (toRA y3 (by decide))) (by omega) (by omega))
theorem init_A {G : GH} {o A : Nat → Nat} (hA : InjA A) (hw : Wf G) (hE : EmR E G) (hov : ∀ q, q < gz G → o q < gz G) (t0 : gT G (A 0) = 10) (o0 : o (A 0) = A 0) (h1 : A 1 = gz G) (h2 : A 2 = gz G + 1) (h3 : A 3 = gz G + 2) (h6 : A 6 = gz G + 3)
    (k : ∀ G' o', IP E G' o' A 1 1 → SoP E G' o' A 1 → Stq (RA A) G o G' o' → gz G' = gz G + 4 → gs G' = gs G + 15 → J E 6 m_St_init 29 [some (.ref (A 0))] [.ref (A 3), .int 0, .ref (A 2), .ref (A 2), .ref (A 0)] G' Post) : J E 6 m_St_init 0 [some (.ref (A 0))] [] G Post := by
  have z0 := hw (A 0) (by omega)
  refine wp_St_init_0 (A 0) (fun G1 hG1 => ?_)
  have sa : Stq ([0, 1].map A) G o G1 (uo o (gz G) (gz G)) := hG1 ▸ (Stq.rf hw).al (gz G)
  have ta : gT G1 (gz G) = 4 := by rw [hG1]; exact if_pos rfl
  have oa : uo o (gz G) (gz G) (gz G) = gz G := uo_eq
  have za : gz G1 = gz G + 1 := by rw [hG1]; rfl
  have qa : gs G1 = gs G + 6 := by rw [hG1]; rfl
  have ova : ∀ q, q < gz G1 → uo o (gz G) (gz G) q < gz G1 := fun q hq => by
    by_cases c : q = gz G
    · rw [c, uo_eq]; omega
    · rw [uo_ne c]; have := hov q (by omega); omega
  have o0a : uo o (gz G) (gz G) (A 0) = A 0 := (uo_ne (by omega)).trans o0
  have t0a : gT G1 (A 0) = 10 := sa.tg' hw t0 (by omega)
  clear hG1
  generalize uo o (gz G) (gz G) = oa' at *
  rw [← h1] at ta oa ⊢
  refine ⟨ta, fun G4 hG4 => ⟨t0a, fun G7 hG7 => fun G9 hG9 => ?_⟩⟩
  have i1 : A 1 < gz G1 → oa' (A 1) ∈ [0, 1].map A := fun _ => by rw [oa]; exact List.mem_map.mpr ⟨1, by decide, rfl⟩
  have i0 : A 0 < gz G1 → oa' (A 0) ∈ [0, 1].map A := fun _ => by rw [o0a]; exact List.mem_map.mpr ⟨0, by decide, rfl⟩
  have s4 : Stq ([0, 1].map A) G1 oa' G4 oa' := hG4 ▸ ((((Stq.rf sa.wf).wI i1).wI i1).wI i1).wI i1
  have z4 : gz G4 = gz G1 := by rw [hG4]; rfl
  have q4 : gs G4 = gs G1 := by rw [hG4]; rfl
  have v4 : gI G4 192 (A 1) = 0 ∧ gI G4 193 (A 1) = 10 ∧ gI G4 194 (A 1) = 10 ∧ gI G4 195 (A 1) = 0 := by
    rw [hG4]
    refine ⟨?_, ?_, ?_, gI_eq⟩
    · rw [gI_ne (by decide), gI_ne (by decide), gI_ne (by decide), gI_eq]
    · rw [gI_ne (by decide), gI_ne (by decide), gI_eq]
    · rw [gI_ne (by decide), gI_eq]
  clear hG4
  have e2 : gz G4 = A 2 := by omega
  rw [e2]
  -- Job, and the row of sources
  have s7a : Stq ([0, 1].map A) G1 oa' (sR (sI (sI G4 196 (A 1) 5) 197 (A 1) 1) 576 (A 0) (some (A 1))) oa' := ((s4.wI i1).wI i1).wR i0
  have s7 : Stq ([0, 1].map A) G1 oa' G7 (uo oa' (A 2) (A 2)) := by
    have := s7a.al (t := 24) (n := 3) (A 2)
    rw [show gz (sR (sI (sI G4 196 (A 1) 5) 197 (A 1) 1) 576 (A 0) (some (A 1))) = A 2 from e2] at this
    rw [hG7]; exact this
  have gzx : gz (sR (sI (sI G4 196 (A 1) 5) 197 (A 1) 1) 576 (A 0) (some (A 1))) = A 2 := e2
  have n02 : A 0 ≠ A 2 := hA.ne (by omega) (by omega) (by omega)
  have n12 : A 1 ≠ A 2 := hA.ne (by omega) (by omega) (by omega)
  have t7 : gT G7 (A 2) = 24 ∧ gN G7 (A 2) = 3 := by rw [hG7]; exact ⟨by rw [gT_al, gzx, if_pos rfl], by rw [gN_al, gzx, if_pos rfl]⟩
  have r7 : gR G7 576 (A 0) = some (A 1) := by rw [hG7, gR_al, gzx, if_neg n02]; exact gR_sR_eq
  have v7 : ∀ f, gI G7 f (A 1) = if f = 197 then 1 else if f = 196 then 5 else gI G4 f (A 1) := fun f => by
    rw [hG7, gI_al, gzx, if_neg n12]
    show gI (sI (sI G4 196 (A 1) 5) 197 (A 1) 1) f (A 1) = _
    rw [gI_sI]
    by_cases c : f = 197
    · rw [if_pos ⟨c, rfl⟩, if_pos c]
    · rw [if_neg (fun z => c z.1), if_neg c, gI_sI]
      by_cases c2 : f = 196
      · rw [if_pos ⟨c2, rfl⟩, if_pos c2]
      · rw [if_neg (fun z => c2 z.1), if_neg c2]
  have z7 : gz G7 = gz G4 + 1 := by rw [hG7]; rfl
  have q7 : gs G7 = gs G4 + 3 := by rw [hG7]; rfl
  have oA2 : uo oa' (A 2) (A 2) (A 2) = A 2 := uo_eq
  have oA0 : uo oa' (A 2) (A 2) (A 0) = A 0 := (uo_ne n02).trans o0a
  have oA1 : uo oa' (A 2) (A 2) (A 1) = A 1 := (uo_ne n12).trans oa
  have ov7 : ∀ q, q < gz G7 → uo oa' (A 2) (A 2) q < gz G7 := fun q hq => by
    by_cases c : q = A 2
    · rw [c, uo_eq]; omega
    · rw [uo_ne c]; have := ova q (by omega); omega
  clear hG7
  generalize uo oa' (A 2) (A 2) = o7 at *
  have em7 : EmR E G7 := (hE.stp hw sa).stp sa.wf s7
  have t07 : gT G7 (A 0) = 10 := s7.tg' sa.wf t0a (by omega)
  have t17 : gT G7 (A 1) = 4 := s7.tg' sa.wf ta (by omega)
  have hJ : JbS G7 A jb0 := fun k hk => by
    rw [v7]
    have c : k = 0 ∨ k = 1 ∨ k = 2 ∨ k = 3 ∨ k = 4 ∨ k = 5 := by omega
    rcases c with c | c | c | c | c | c <;> subst c
    · rw [if_neg (by decide), if_neg (by decide)]; exact v4.1
    · rw [if_neg (by decide), if_neg (by decide)]; exact v4.2.1
    · rw [if_neg (by decide), if_neg (by decide)]; exact v4.2.2.1
    · rw [if_neg (by decide), if_neg (by decide)]; exact v4.2.2.2
    · rw [if_neg (by decide), if_pos rfl]; rfl
    · rw [if_pos rfl]; rfl
  have hI7 : IP E G7 o7 A 1 1 := ⟨s7.wf, em7, ov7, t07, oA0, fun i hi => by
      have : i = 0 := by omega
      subst this; exact r7, fun _ => ⟨t17, oA1, hJ⟩, fun z => absurd z (by omega), fun z => absurd z (by omega), fun z => absurd z (by omega), fun z => absurd z (by omega), fun z => absurd z (by omega)⟩
  have e3 : gz G7 = A 3 := by omega
  have s9 : Stq ([].map A) G7 o7 G9 (uo o7 (A 3) (A 3)) := by
    have := (Stq.rf (S := [].map A) s7.wf (o := o7)).al (t := 7) (n := 3) (A 3)
    rw [e3] at this
    rw [hG9]; exact this
  have z9 : gz G9 = gz G7 + 1 := by rw [hG9]; rfl
  have q9 : gs G9 = gs G7 + 3 := by rw [hG9]; rfl
  have t9 : gT G9 (A 3) = 7 := by rw [hG9, gT_al, e3, if_pos rfl]
  have o9 : uo o7 (A 3) (A 3) (A 3) = A 3 := uo_eq
  have ov9 : ∀ q, q < gz G9 → uo o7 (A 3) (A 3) q < gz G9 := fun q hq => by
    by_cases c : q = A 3
    · rw [c, uo_eq]; omega
    · rw [uo_ne c]; have := ov7 q (by omega); omega
  clear hG9
  generalize uo o7 (A 3) (A 3) = oo9 at *
  have hI9 : IP E G9 oo9 A 1 1 := hI7.stp (lo := 2) hA s9 (by simp) (by omega) (fun i _ => (s9.sm (by omega) (by simp)).2.2.2.1 _) ov9
  have hz2 : A 2 < gz G7 := by omega
  have hs9 : SoP E G9 oo9 A 0 := ⟨(s9.tg hz2).trans t7.1, (s9.ln hz2).trans t7.2, (s9.ow hz2).trans oA2, fun s hs => absurd hs (by omega), fun s hs => absurd hs (by omega)⟩
  have sall : Stq ([0, 1].map A) G o G9 oo9 := sa.tr (s7.tr (s9.mono (by simp)))
  rw [e3]
  exact src_init (n := 0) hA (by omega) hI9 hs9 (fun s hs => absurd hs (by omega)) t9 o9 (show A 6 = gz G9 by omega) (fun G3 o3 y1 y2 y3 y4 y5 => k G3 o3 y1 y2 ((toRA sall (by decide)).tr (toRA y3 (by decide))) (by omega) (by omega))
/-- a new object -/
theorem c_St_init {G : GH} {o A : Nat → Nat} (hA : InjA A) (hw : Wf G) (hE : EmR E G) (hov : ∀ q, q < gz G → o q < gz G) (t0 : gT G (A 0) = 10) (o0 : o (A 0) = A 0) (h1 : A 1 = gz G) (h2 : A 2 = gz G + 1) (h3 : A 3 = gz G + 2) (h6 : A 6 = gz G + 3) (h4 : A 4 = gz G + 4) (h7 : A 7 = gz G + 5) (h5 : A 5 = gz G + 6) (h8 : A 8 = gz G + 7)
    (h9 : ∀ j, 9 ≤ j → j ≤ 30 → A j = gz G + j - 1)
    (k : ∀ G' o', StS E G' o' A X0 0 → Stq (RA A) G o G' o' → gz G' = gz G + 30 → gs G' = gs G + 106 → EmR E G' → Post (.inl none) G') : Cl E 6 m_St_init [.ref (A 0)] G Post := by
  refine j_enter (L := [some (.ref (A 0))]) me_St_init (cat_c rfl cat_n) (Nat.le_of_ble_eq_true rfl) rfl ?_
  refine init_A hA hw hE hov t0 o0 h1 h2 h3 h6 (fun G1 o1 i1 p1 s1 z1 q1 => ?_)
  refine init_B0 hA i1 p1 (by omega) (by omega) (fun G2 o2 i2 p2 s2 z2 q2 => ?_)
  refine init_B1 hA i2 p2 (by omega) (by omega) (fun G3 o3 i3 p3 s3 z3 q3 => ?_)
  have y3 : gz G3 = gz G + 8 := by omega
  have x3 : gs G3 = gs G + 27 := by omega
  have s03 := s1.tr (s2.tr s3)
  clear z1 z2 z3 q1 q2 q3 s1 s2 s3 h1 h2 h3 h4 h5 h6 h7 h8
  refine init_B2 hA i3 p3 (by rw [h9 9 (by decide) (by decide), y3]; rfl) (by rw [h9 10 (by decide) (by decide), y3]; rfl) (by rw [h9 11 (by decide) (by decide), y3]; rfl) (by rw [h9 12 (by decide) (by decide), y3]; rfl) (by rw [h9 13 (by decide) (by decide), y3]; rfl) (by rw [h9 14 (by decide) (by decide), y3]; rfl) (by rw [h9 15 (by decide) (by decide), y3]; rfl) (fun G4 o4 i4 s4 z4 q4 => ?_)
  have y4 : gz G4 = gz G + 15 := by rw [z4, y3]
  refine init_C hA i4 (by rw [h9 9 (by decide) (by decide), y4]; exact Nat.add_lt_add_left (by decide) _) (by rw [h9 16 (by decide) (by decide), y4]; rfl) (by rw [h9 17 (by decide) (by decide), y4]; rfl) (by rw [h9 18 (by decide) (by decide), y4]; rfl) (by rw [h9 19 (by decide) (by decide), y4]; rfl) (by rw [h9 20 (by decide) (by decide), y4]; rfl) (by rw [h9 21 (by decide) (by decide), y4]; rfl) (by rw [h9 22 (by decide) (by decide), y4]; rfl) (fun G5 o5 i5 s5 z5 q5 => ?_)
  have y5 : gz G5 = gz G + 22 := by rw [z5, y4]
  refine init_D hA i5 (by rw [h9 16 (by decide) (by decide), y5]; exact Nat.add_lt_add_left (by decide) _) (by rw [h9 23 (by decide) (by decide), y5]; rfl) (by rw [h9 24 (by decide) (by decide), y5]; rfl) (by rw [h9 25 (by decide) (by decide), y5]; rfl) (fun G6 o6 i6 s6 z6 q6 => ?_)
  have y6 : gz G6 = gz G + 25 := by rw [z6, y5]
  refine init_E hA i6 (by rw [h9 23 (by decide) (by decide), y6]; exact Nat.add_lt_add_left (by decide) _) (by rw [h9 26 (by decide) (by decide), y6]; rfl) (by rw [h9 27 (by decide) (by decide), y6]; rfl) (fun G7 o7 i7 s7 z7 q7 => ?_)
  have y7 : gz G7 = gz G + 27 := by rw [z7, y6]
  refine init_F hA i7 (by rw [h9 26 (by decide) (by decide), y7]; exact Nat.add_lt_add_left (by decide) _) (by rw [h9 28 (by decide) (by decide), y7]; rfl) (by rw [h9 29 (by decide) (by decide), y7]; rfl) (by rw [h9 30 (by decide) (by decide), y7]; rfl) (fun G8 o8 y s8 z8 q8 em => k G8 o8 y (s03.tr (s4.tr (s5.tr (s6.tr (s7.tr s8))))) (by rw [z8, y7]) (by rw [q8, q7, q6, q5, q4, x3]) em)
end INIT4
