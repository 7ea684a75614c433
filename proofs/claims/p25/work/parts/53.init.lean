section INIT
variable {E : EV} {Post : Res → GH → Prop}
/-- ArrayList's own empty row -/
def EmR (E : EV) (G : GH) : Prop := gT G (eC E) = 26 ∧ gN G (eC E) = 0
theorem EmR.stp {S : List Nat} {G G' : GH} {o o' : Nat → Nat} (h : EmR E G) (hw : Wf G) (s : Stq S G o G' o') : EmR E G' :=
  ⟨s.tg' hw h.1 (by omega), (s.ln (hw _ (by rw [h.1]; omega))).trans h.2⟩
theorem new_list {G : GH} {o : Nat → Nat} (hw : Wf G) (hE : EmR E G) :
    ∀ G2, G2 = sR (sI (al G 12 3) 704 (gz G) 0) 705 (gz G) (some (eC E)) → Stq [] G o G2 (uo o (gz G) (gz G)) ∧ LA E G2 (uo o (gz G) (gz G)) (gz G) [] 0 ∧ gz G2 = gz G + 1 ∧ gs G2 = gs G + 3 ∧ EmR E G2 := by
  intro G2 hG
  have s1 : Stq [] G o (al G 12 3) (uo o (gz G) (gz G)) := (Stq.rf hw).al (gz G)
  have s2 : Stq [] G o G2 (uo o (gz G) (gz G)) := hG ▸ (s1.wI (fun z => absurd z (Nat.lt_irrefl _))).wR (fun z => absurd z (Nat.lt_irrefl _))
  have em := hE.stp hw s2
  refine ⟨s2, ⟨eC E, ?_, ?_, ?_, em.2, Nat.le_refl _, by omega, uo_eq, Or.inl ⟨rfl, em.1, rfl⟩⟩, by rw [hG]; rfl, by rw [hG]; rfl, em⟩
  · rw [hG]; exact if_pos rfl
  · rw [hG]; exact gR_sR_eq
  · rw [hG]
    show gI (sI (al G 12 3) 704 (gz G) 0) 706 (gz G) = 0
    rw [gI_ne (by decide), gI_al, if_pos rfl]
theorem c_So_init {G : GH} {o : Nat → Nat} {a : Nat} (hw : Wf G) (hE : EmR E G) (ha : gT G a = 7) (hoa : o a = a)
    (k : ∀ G' o', Stq [a] G o G' o' → LA E G' o' (gz G) [] 0 → gR G' 384 a = some (gz G) → gI G' 385 a = 0 → gI G' 386 a = 0 → gz G' = gz G + 1 → gs G' = gs G + 3 → EmR E G' → Post (.inl none) G') : Cl E 4 m_So_init [.ref a] G Post := by
  have hne : gz G ≠ a := fun z => by have := hw a (by omega); omega
  refine j_enter (L := [some (.ref a)]) me_So_init (cat_c rfl cat_n) (Nat.le_of_ble_eq_true rfl) rfl (wp_So_init_0 a (fun G1 hG1 => c_AL_init (by rw [hG1]; exact if_pos rfl) ?_))
  subst hG1
  obtain ⟨s, l, z1, z2, em⟩ := new_list (E := E) (o := o) hw hE _ rfl
  generalize sR (sI (al G 12 3) 704 (gz G) 0) 705 (gz G) (some (eC E)) = G2 at *
  have oa : uo o (gz G) (gz G) a = a := (uo_ne (fun z => hne z.symm)).trans hoa
  have t2 : gT G2 a = 7 := s.tg' hw ha (by omega)
  have s2 : Stq [a] G2 (uo o (gz G) (gz G)) (sI (sI (sR G2 384 a (some (gz G))) 385 a 0) 386 a 0) (uo o (gz G) (gz G)) := (((Stq.rf s.wf).wR (fun _ => by rw [oa]; exact in1)).wI (fun _ => by rw [oa]; exact in1)).wI (fun _ => by rw [oa]; exact in1)
  refine wp_So_init_12 a a (gz G) ⟨t2, t2, k _ _ ((s.mono (by intro z hz; exact absurd hz List.not_mem_nil)).tr s2) (l.stp s.wf s2 (by rw [List.mem_singleton]; exact hne)) gR_sR_eq ?_ gI_eq z1 z2 (em.stp s.wf s2)⟩
  rw [gI_ne (by decide), gI_eq]
theorem c_Ws_init {G : GH} {o : Nat → Nat} {a : Nat} (hw : Wf G) (hE : EmR E G) (ha : gT G a = 9) (hoa : o a = a)
    (k : ∀ G' o', Stq [a] G o G' o' → WsR E G' o' a (gz G) (gz G + 1) [] [] 0 → gz G' = gz G + 2 → gs G' = gs G + 6 → EmR E G' → Post (.inl none) G') : Cl E 4 m_Ws_init [.ref a] G Post := by
  have haz := hw a (by omega)
  refine j_enter (L := [some (.ref a)]) me_Ws_init (cat_c rfl cat_n) (Nat.le_of_ble_eq_true rfl) rfl (wp_Ws_init_0 a (fun G1 hG1 => c_AL_init (by rw [hG1]; exact if_pos rfl) ?_))
  subst hG1
  obtain ⟨s, l, z1, z2, em⟩ := new_list (E := E) (o := o) hw hE _ rfl
  generalize sR (sI (al G 12 3) 704 (gz G) 0) 705 (gz G) (some (eC E)) = G2 at *
  have oa : uo o (gz G) (gz G) a = a := (uo_ne (by omega)).trans hoa
  have t2 : gT G2 a = 9 := s.tg' hw ha (by omega)
  generalize hl : gz G = lz at *
  generalize uo o lz lz = o2 at *
  have s2 : Stq [a] G2 o2 (sR G2 512 a (some lz)) o2 := (Stq.rf s.wf).wR (fun _ => by rw [oa]; exact in1)
  have em2 := em.stp s.wf s2
  have l2 := l.stp s.wf s2 (by rw [List.mem_singleton]; omega)
  have r2 : gR (sR G2 512 a (some lz)) 512 a = some lz := gR_sR_eq
  have zz : gz (sR G2 512 a (some lz)) = lz + 1 := z1
  have zs : gs (sR G2 512 a (some lz)) = gs G + 3 := z2
  have t3 : gT (sR G2 512 a (some lz)) a = 9 := t2
  refine wp_Ws_init_12 a a lz ⟨t2, fun G3 hG3 => c_AL_init (by rw [hG3]; exact if_pos rfl) ?_⟩
  subst hG3
  rw [show gz G2 = gz (sR G2 512 a (some lz)) from rfl]
  generalize sR G2 512 a (some lz) = G3 at *
  obtain ⟨s3, l3, z3, z4, em3⟩ := new_list (E := E) (o := o2) s2.wf em2 _ rfl
  generalize sR (sI (al G3 12 3) 704 (gz G3) 0) 705 (gz G3) (some (eC E)) = G4 at *
  have oa4 : uo o2 (gz G3) (gz G3) a = a := (uo_ne (by omega)).trans oa
  have l4 := l2.stp s2.wf s3 List.not_mem_nil
  have t4 : gT G4 a = 9 := s3.tg' s2.wf t3 (by omega)
  have r4 : gR G4 512 a = some lz := ((s3.sm (by omega) List.not_mem_nil).2.2.2.1 _).trans r2
  have s4 : Stq [a] G4 (uo o2 (gz G3) (gz G3)) (sR G4 513 a (some (gz G3))) (uo o2 (gz G3) (gz G3)) := (Stq.rf s3.wf).wR (fun _ => by rw [oa4]; exact in1)
  have nn : ∀ z, z ∈ ([] : List Nat) → z ∈ [a] := fun z hz => absurd hz List.not_mem_nil
  refine wp_Ws_init_23 a (gz G3) ⟨t4, k _ _ ((s.mono nn).tr (s2.tr ((s3.mono nn).tr s4))) ⟨t4, oa4, ?_, ?_, by omega, ⟨by simp, by simp⟩, 0, 0, l4.stp s3.wf s4 (by rw [List.mem_singleton]; omega), ?_, rfl⟩ ?_ ?_ (em3.stp s3.wf s4)⟩
  · rw [gR_sR, if_neg (fun z => absurd z.1 (by omega))]; exact r4
  · rw [zz]; rw [zz] at oa4; exact gR_sR_eq
  · have := l3.stp s3.wf s4 (by rw [List.mem_singleton]; omega)
    rw [zz] at this ⊢
    exact this
  · show gz G4 = _; omega
  · show gs G4 = _; omega
theorem al_A {G : GH} {t n : Nat} : gA (al G t n) (gz G) = fun _ => 0 := by
  funext i
  exact if_pos rfl
/-- a new Progress -/
def P0 : PG := (fun _ => 0, fun _ => 0, fun _ => -1, -1, 0, 0, 0, [])
theorem pr_tail {G G16 : GH} {o ow A : Nat → Nat} {b pa : Nat} (hov : ∀ q, q < gz G → o q < gz G) (hwf : Wf G16) (em16 : EmR E G16) (t16 : gT G16 pa = 5) (o5 : ow pa = pa) (haz : pa < gz G) (e16 : gz G16 = gz G + 4) (f16 : gs G16 = gs G + 11) (stot : Stq [pa] G o G16 ow) (t5 : gT G16 (gz G + 3) = 9) (oo5 : ow (gz G + 3) = gz G + 3)
    (d1 : gT G16 (gz G) = 20 ∧ gN G16 (gz G) = 3 ∧ ow (gz G) = pa) (d2 : gT G16 (gz G + 1) = 20 ∧ gN G16 (gz G + 1) = 3 ∧ ow (gz G + 1) = pa) (d3 : gT G16 (gz G + 2) = 20 ∧ gN G16 (gz G + 2) = 3 ∧ ow (gz G + 2) = pa)
    (y0 : ∀ j, gA G16 (gz G) j = 0) (y1 : ∀ j, gA G16 (gz G + 1) j = 0) (y2 : ∀ j, j < 3 → gA G16 (gz G + 2) j = -1) (rg0 : gR G16 256 pa = some (gz G)) (rg1 : gR G16 257 pa = some (gz G + 1)) (rf1 : gR G16 258 pa = some (gz G + 2)) (n259 : gI G16 259 pa = -1 ∧ gI G16 260 pa = 0 ∧ gI G16 261 pa = 0 ∧ gI G16 262 pa = 0)
    (hpa : A b = pa) (h1 : A (b + 1) = gz G) (h2 : A (b + 2) = gz G + 1) (h3 : A (b + 3) = gz G + 2) (h4 : A (b + 4) = gz G + 3) (h5 : A (b + 5) = gz G + 4) (h6 : A (b + 6) = gz G + 5)
    (k : ∀ G' o', Stq [pa] G o G' o' → PgS E G' o' A b P0 0 → gz G' = gz G + 6 → gs G' = gs G + 17 → EmR E G' → Post (.inl none) G') : Cl E 4 m_Ws_init [.ref (gz G + 3)] G16 (aft E 5 m_Pr_init 62 [none] [.ref (gz G + 3), .ref pa] Post) := by
  refine c_Ws_init hwf em16 t5 oo5 (fun G8 o8 s8 hW z8 q8 em8 => ?_)
  have hp16 : pa < gz G16 := by omega
  have nb : ∀ a, a < gz G16 → ow a = pa → Sm G16 G8 a := fun a ha ho => s8.sm ha (by rw [ho, List.mem_singleton]; omega)
  have sp := nb pa hp16 o5
  have s9 : Stq [pa] G8 o8 (sR G8 263 pa (some (gz G + 3))) o8 := (Stq.rf s8.wf).wR (fun _ => by rw [s8.ow (q := pa) hp16, o5]; exact in1)
  have s8' : Stq [pa] G o G8 o8 := by
    refine ⟨s8.wf, Nat.le_trans stot.le s8.le, fun q hq => ?_⟩
    have hq' : q < gz G16 := by omega
    refine ⟨⟨(s8.ow hq').trans (stot.ow hq), (s8.tg hq').trans (stot.tg hq), (s8.ln hq').trans (stot.ln hq)⟩, fun hn => (stot.sm hq hn).tr (s8.sm hq' ?_)⟩
    rw [stot.ow hq, List.mem_singleton]
    intro z
    have := hov q hq
    omega
  refine wp_Pr_init_65 pa (gz G + 3) ⟨sp.1.trans t16, k _ o8 (s8'.tr s9) ?_ (by show gz G8 = _; omega) (by show gs G8 = _; omega) (em8.stp s8.wf s9)⟩
  have e0 : ∀ a, a < gz G16 → ow a = pa → ∀ j, gA (sR G8 263 pa (some (gz G + 3))) a j = gA G16 a j := fun a ha ho j => (nb a ha ho).2.2.2.2.1 j
  have rf : ∀ f, f ≠ 263 → gR (sR G8 263 pa (some (gz G + 3))) f pa = gR G16 f pa := fun f hf => by
    rw [gR_sR, if_neg (fun z => hf z.1), sp.2.2.2.1]
  have a3' : ∀ a, a < gz G16 → (gT G16 a = 20 ∧ gN G16 a = 3 ∧ ow a = pa) → A3 (sR G8 263 pa (some (gz G + 3))) o8 pa a := fun a ha hh => ⟨(s8.tg ha).trans hh.1, (s8.ln ha).trans hh.2.1, (s8.ow ha).trans hh.2.2⟩
  have x0 : gz G < gz G16 := by omega
  have x1 : gz G + 1 < gz G16 := by omega
  have x2 : gz G + 2 < gz G16 := by omega
  have nm : ∀ a, pa < a → a ∉ [pa] := fun a ha z => Nat.lt_irrefl _ ((List.mem_singleton.mp z) ▸ ha)
  have hW9 := hW.stp s8.wf s9 (nm _ (Nat.lt_add_right 3 haz)) (nm _ hp16) (nm _ (Nat.lt_succ_of_lt hp16))
  unfold PgS
  rw [hpa, h1, h2, h3, h4, h5, h6]
  rw [e16] at hW9
  refine ⟨⟨sp.1.trans t16, (s8.ow (q := pa) hp16).trans o5, (rf 256 (by decide)).trans rg0, (rf 257 (by decide)).trans rg1, (rf 258 (by decide)).trans rf1, gR_sR_eq, a3' _ x0 d1, a3' _ x1 d2, a3' _ x2 d3, by omega, by omega, by omega⟩, fun j hj => ⟨?_, ?_, ?_⟩, (sp.2.2.1 259).trans n259.1, (sp.2.2.1 260).trans n259.2.1, (sp.2.2.1 261).trans n259.2.2.1, (sp.2.2.1 262).trans n259.2.2.2, [], [], hW9, rfl, by simp⟩
  · rw [e0 _ x0 d1.2.2, y0]; rfl
  · rw [e0 _ x1 d2.2.2, y1]; rfl
  · rw [e0 _ x2 d3.2.2, y2 j hj]; rfl
set_option maxHeartbeats 2000000 in
theorem c_Pr_init {G : GH} {o A : Nat → Nat} {b : Nat} (hw : Wf G) (hov : ∀ q, q < gz G → o q < gz G) (hE : EmR E G) (ha : gT G (A b) = 5) (hoa : o (A b) = A b) (h1 : A (b + 1) = gz G) (h2 : A (b + 2) = gz G + 1) (h3 : A (b + 3) = gz G + 2) (h4 : A (b + 4) = gz G + 3) (h5 : A (b + 5) = gz G + 4) (h6 : A (b + 6) = gz G + 5)
    (k : ∀ G' o', Stq [A b] G o G' o' → PgS E G' o' A b P0 0 → gz G' = gz G + 6 → gs G' = gs G + 17 → EmR E G' → Post (.inl none) G') : Cl E 5 m_Pr_init [.ref (A b)] G Post := by
  have haz := hw (A b) (by omega)
  generalize hpa : A b = pa at *
  refine j_enter (L := [some (.ref pa)]) me_Pr_init (cat_c rfl cat_n) (Nat.le_of_ble_eq_true rfl) rfl (wp_Pr_init_0 pa (fun G1 hG1 => ?_))
  have s1 : Stq [pa] G o G1 (uo o (gz G) pa) := hG1 ▸ (Stq.rf hw).al pa
  have z1 : gz G1 = gz G + 1 := by rw [hG1]; rfl
  have q1 : gs G1 = gs G + 3 := by rw [hG1]; rfl
  have o1 : uo o (gz G) pa pa = pa := (uo_ne (by omega)).trans hoa
  have a1 : gT G1 (gz G) = 20 ∧ gN G1 (gz G) = 3 ∧ uo o (gz G) pa (gz G) = pa := by rw [hG1]; exact ⟨if_pos rfl, if_pos rfl, uo_eq⟩
  have v1 : ∀ j, gA G1 (gz G) j = 0 := fun j => by rw [hG1]; exact if_pos rfl
  have t1 : gT G1 pa = 5 := s1.tg' hw ha (by omega)
  generalize uo o (gz G) pa = oo1 at *
  clear hG1
  refine ⟨t1, fun G4 hG4 => ?_⟩
  have s2a : Stq [pa] G1 oo1 (sR G1 256 pa (some (gz G))) oo1 := (Stq.rf s1.wf).wR (fun _ => by rw [o1]; exact in1)
  have s2 : Stq [pa] G1 oo1 G4 (uo oo1 (gz G1) pa) := hG4 ▸ s2a.al pa
  have z2 : gz G4 = gz G1 + 1 := by rw [hG4]; rfl
  have q2 : gs G4 = gs G1 + 3 := by rw [hG4]; rfl
  have o2 : uo oo1 (gz G1) pa pa = pa := (uo_ne (by omega)).trans o1
  have a2 : gT G4 (gz G1) = 20 ∧ gN G4 (gz G1) = 3 ∧ uo oo1 (gz G1) pa (gz G1) = pa := by rw [hG4]; exact ⟨if_pos rfl, if_pos rfl, uo_eq⟩
  have v2 : ∀ j, gA G4 (gz G1) j = 0 := fun j => by rw [hG4]; exact if_pos rfl
  have w2 : ∀ j, gA G4 (gz G) j = 0 := fun j => by rw [hG4, gA_al, if_neg (by show gz G ≠ gz G1; omega)]; exact v1 j
  have r2 : gR G4 256 pa = some (gz G) := by rw [hG4, gR_al, if_neg (by show pa ≠ gz G1; omega)]; exact gR_sR_eq
  have t2 : gT G4 pa = 5 := s2.tg' s1.wf t1 (by omega)
  have b1 : gT G4 (gz G) = 20 ∧ gN G4 (gz G) = 3 ∧ uo oo1 (gz G1) pa (gz G) = pa := ⟨(s2.tg (by omega)).trans a1.1, (s2.ln (by omega)).trans a1.2.1, (s2.ow (by omega)).trans a1.2.2⟩
  generalize uo oo1 (gz G1) pa = oo2 at *
  clear hG4
  refine ⟨t2, fun G7 hG7 => ?_⟩
  have s3a : Stq [pa] G4 oo2 (sR G4 257 pa (some (gz G1))) oo2 := (Stq.rf s2.wf).wR (fun _ => by rw [o2]; exact in1)
  have s3 : Stq [pa] G4 oo2 G7 (uo oo2 (gz G4) pa) := hG7 ▸ s3a.al pa
  have z3 : gz G7 = gz G4 + 1 := by rw [hG7]; rfl
  have q3 : gs G7 = gs G4 + 3 := by rw [hG7]; rfl
  have o3 : uo oo2 (gz G4) pa pa = pa := (uo_ne (by omega)).trans o2
  have a3 : gT G7 (gz G4) = 20 ∧ gN G7 (gz G4) = 3 ∧ uo oo2 (gz G4) pa (gz G4) = pa := by rw [hG7]; exact ⟨if_pos rfl, if_pos rfl, uo_eq⟩
  have v3 : ∀ j, gA G7 (gz G1) j = 0 := fun j => by rw [hG7, gA_al, if_neg (by show gz G1 ≠ gz G4; omega)]; exact v2 j
  have w3 : ∀ j, gA G7 (gz G) j = 0 := fun j => by rw [hG7, gA_al, if_neg (by show gz G ≠ gz G4; omega)]; exact w2 j
  have r3 : gR G7 257 pa = some (gz G1) := by rw [hG7, gR_al, if_neg (by show pa ≠ gz G4; omega)]; exact gR_sR_eq
  have r3' : gR G7 256 pa = some (gz G) := by rw [hG7, gR_al, if_neg (by show pa ≠ gz G4; omega), gR_sR, if_neg (fun z => absurd z.1 (by omega))]; exact r2
  have t3 : gT G7 pa = 5 := s3.tg' s2.wf t2 (by omega)
  have c1 : gT G7 (gz G) = 20 ∧ gN G7 (gz G) = 3 ∧ uo oo2 (gz G4) pa (gz G) = pa := ⟨(s3.tg (by omega)).trans b1.1, (s3.ln (by omega)).trans b1.2.1, (s3.ow (by omega)).trans b1.2.2⟩
  have c2 : gT G7 (gz G1) = 20 ∧ gN G7 (gz G1) = 3 ∧ uo oo2 (gz G4) pa (gz G1) = pa := ⟨(s3.tg (by omega)).trans a2.1, (s3.ln (by omega)).trans a2.2.1, (s3.ow (by omega)).trans a2.2.2⟩
  generalize uo oo2 (gz G4) pa = oo3 at *
  clear hG7
  refine ⟨a3.1, ix3 (s := 0) (by omega) a3.2.1, ix3 (s := 1) (by omega) a3.2.1, ix3 (s := 2) (by omega) a3.2.1, t3, fun G14 hG14 => fun G16 hG16 => ?_⟩
  have i3 : gz G4 < gz G7 → oo3 (gz G4) ∈ [pa] := fun _ => by rw [a3.2.2]; exact in1
  have ip : pa < gz G7 → oo3 pa ∈ [pa] := fun _ => by rw [o3]; exact in1
  have s4 : Stq [pa] G7 oo3 G14 oo3 := hG14 ▸ ((((Stq.rf s3.wf).wA i3).wA i3).wA i3).wR ip
  have z4 : gz G14 = gz G7 := by rw [hG14]; rfl
  have q4 : gs G14 = gs G7 := by rw [hG14]; rfl
  have v4 : ∀ j, j < 3 → gA G14 (gz G4) j = -1 := fun j hj => by
    rw [hG14, gA_sR, gA_sA, gA_sA, gA_sA]
    have c : j = 0 ∨ j = 1 ∨ j = 2 := by omega
    rcases c with c | c | c <;> subst c <;> simp
  have v4' : ∀ a j, a ≠ gz G4 → gA G14 a j = gA G7 a j := fun a j ha => by
    rw [hG14, gA_sR, gA_sA, if_neg (fun z => ha z.1), gA_sA, if_neg (fun z => ha z.1), gA_sA, if_neg (fun z => ha z.1)]
  have r4 : gR G14 258 pa = some (gz G4) := by rw [hG14]; exact gR_sR_eq
  have r4' : ∀ f, f ≠ 258 → gR G14 f pa = gR G7 f pa := fun f hf => by rw [hG14]; exact if_neg (fun z => hf z.1)
  clear hG14
  -- the numbers, then Windows
  have sI4 : Stq [pa] G14 oo3 (sI (sI (sI (sI G14 259 pa (-1)) 260 pa 0) 261 pa 0) 262 pa 0) oo3 := (((((Stq.rf s4.wf).wI (fun _ => by rw [o3]; exact in1)).wI (fun _ => by rw [o3]; exact in1)).wI (fun _ => by rw [o3]; exact in1)).wI (fun _ => by rw [o3]; exact in1))
  have s5 : Stq [pa] G14 oo3 G16 (uo oo3 (gz G14) (gz G14)) := hG16 ▸ sI4.al (gz G14)
  have z5 : gz G16 = gz G14 + 1 := by rw [hG16]; rfl
  have q5 : gs G16 = gs G14 + 2 := by rw [hG16]; rfl
  have t5 : gT G16 (gz G14) = 9 := by rw [hG16]; exact if_pos rfl
  have n259 : gI G16 259 pa = -1 ∧ gI G16 260 pa = 0 ∧ gI G16 261 pa = 0 ∧ gI G16 262 pa = 0 := by
    rw [hG16]
    have hne : pa ≠ gz (sI (sI (sI (sI G14 259 pa (-1)) 260 pa 0) 261 pa 0) 262 pa 0) := by show pa ≠ gz G14; omega
    rw [gI_al, if_neg hne, gI_al, if_neg hne, gI_al, if_neg hne, gI_al, if_neg hne]
    refine ⟨?_, ?_, ?_, gI_eq⟩
    · rw [gI_ne (by decide), gI_ne (by decide), gI_ne (by decide), gI_eq]
    · rw [gI_ne (by decide), gI_ne (by decide), gI_eq]
    · rw [gI_ne (by decide), gI_eq]
  have r5 : ∀ f, gR G16 f pa = gR G14 f pa := fun f => by rw [hG16, gR_al, if_neg (by show pa ≠ gz G14; omega)]; rfl
  have v5 : ∀ a j, a < gz G14 → gA G16 a j = gA G14 a j := fun a j ha => by rw [hG16, gA_al, if_neg (by show a ≠ gz G14; omega)]; rfl
  have o5 : uo oo3 (gz G14) (gz G14) pa = pa := (uo_ne (by omega)).trans o3
  have oo5 : uo oo3 (gz G14) (gz G14) (gz G14) = gz G14 := uo_eq
  have em16 : EmR E G16 := hE.stp hw (s1.tr (s2.tr (s3.tr (s4.tr s5))))
  have t16 : gT G16 pa = 5 := (s4.tr s5).tg' s3.wf t3 (by omega)
  have st16 := s4.tr s5
  have d1 : gT G16 (gz G) = 20 ∧ gN G16 (gz G) = 3 ∧ uo oo3 (gz G14) (gz G14) (gz G) = pa := ⟨(st16.tg (by omega)).trans c1.1, (st16.ln (by omega)).trans c1.2.1, (st16.ow (by omega)).trans c1.2.2⟩
  have d2 : gT G16 (gz G1) = 20 ∧ gN G16 (gz G1) = 3 ∧ uo oo3 (gz G14) (gz G14) (gz G1) = pa := ⟨(st16.tg (by omega)).trans c2.1, (st16.ln (by omega)).trans c2.2.1, (st16.ow (by omega)).trans c2.2.2⟩
  have d3 : gT G16 (gz G4) = 20 ∧ gN G16 (gz G4) = 3 ∧ uo oo3 (gz G14) (gz G14) (gz G4) = pa := ⟨(st16.tg (by omega)).trans a3.1, (st16.ln (by omega)).trans a3.2.1, (st16.ow (by omega)).trans a3.2.2⟩
  generalize uo oo3 (gz G14) (gz G14) = ow at *
  clear hG16
  have e1 : gz G1 = gz G + 1 := z1
  have e2 : gz G4 = gz G + 2 := by rw [z2, e1]
  have e3 : gz G7 = gz G + 3 := by rw [z3, e2]
  have e4 : gz G14 = gz G + 3 := z4.trans e3
  have e16 : gz G16 = gz G + 4 := by rw [z5, e4]
  have f16 : gs G16 = gs G + 11 := by rw [q5, q4, q3, q2, q1]
  have y0 : ∀ j, gA G16 (gz G) j = 0 := fun j => by rw [v5 _ _ (by rw [e4]; exact Nat.lt_add_of_pos_right (by decide)), v4' _ _ (by rw [e2]; exact Nat.ne_of_lt (Nat.lt_add_of_pos_right (by decide)))]; exact w3 j
  have y1 : ∀ j, gA G16 (gz G1) j = 0 := fun j => by rw [v5 _ _ (by rw [e4, e1]; exact Nat.add_lt_add_left (by decide) _), v4' _ _ (by rw [e2, e1]; exact Nat.ne_of_lt (Nat.add_lt_add_left (by decide) _))]; exact v3 j
  have y2 : ∀ j, j < 3 → gA G16 (gz G4) j = -1 := fun j hj => by rw [v5 _ _ (by rw [e4, e2]; exact Nat.add_lt_add_left (by decide) _)]; exact v4 j hj
  have rf0 : ∀ f, f ≠ 258 → gR G16 f pa = gR G7 f pa := fun f hf => (r5 f).trans (r4' f hf)
  have rf1 : gR G16 258 pa = some (gz G4) := (r5 _).trans r4
  have rg0 : gR G16 256 pa = some (gz G) := (rf0 256 (by decide)).trans r3'
  have rg1 : gR G16 257 pa = some (gz G1) := (rf0 257 (by decide)).trans r3
  have stot : Stq [pa] G o G16 ow := s1.tr (s2.tr (s3.tr (s4.tr s5)))
  rw [e1] at y1 rg1 d2
  rw [e2] at y2 rf1 d3
  rw [e4] at t5 oo5
  rw [e4]
  have hwf := s5.wf
  clear s1 s2 s3 s4 s5 s2a s3a sI4 st16 z1 z2 z3 z4 z5 q1 q2 q3 q4 q5 v1 v2 v3 v4 v4' v5 w2 w3 r2 r3 r3' r4 r4' r5 rf0 a1 a2 a3 b1 c1 c2 t1 t2 t3 o1 o2 o3 i3 ip e1 e2 e3 e4
  exact pr_tail hov hwf em16 t16 o5 haz e16 f16 stot t5 oo5 d1 d2 d3 y0 y1 y2 rg0 rg1 rf1 n259 hpa h1 h2 h3 h4 h5 h6 k
end INIT
