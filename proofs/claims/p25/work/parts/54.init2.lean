section INIT2
variable {E : EV} {Post : Res → GH → Prop}
theorem c_Hi_init {G : GH} {o : Nat → Nat} {a : Nat} (hw : Wf G) (hE : EmR E G) (ha : gT G a = 3) (hoa : o a = a)
    (k : ∀ G' o', Stq [a] G o G' o' → HiR E G' o' a (gz G) (gz G + 1) [] 0 (-1) 0 → gz G' = gz G + 2 → gs G' = gs G + 9 → EmR E G' → Post (.inl none) G') : Cl E 4 m_Hi_init [.ref a] G Post := by
  have haz := hw a (by omega)
  refine j_enter (L := [some (.ref a)]) me_Hi_init (cat_c rfl cat_n) (Nat.le_of_ble_eq_true rfl) rfl (wp_Hi_init_0 a (fun G1 hG1 => c_AL_init (by rw [hG1]; exact if_pos rfl) ?_))
  subst hG1
  obtain ⟨s, l, z1, z2, em⟩ := new_list (E := E) (o := o) hw hE _ rfl
  generalize sR (sI (al G 12 3) 704 (gz G) 0) 705 (gz G) (some (eC E)) = G2 at *
  have oa : uo o (gz G) (gz G) a = a := (uo_ne (by omega)).trans hoa
  have t2 : gT G2 a = 3 := s.tg' hw ha (by omega)
  generalize hl : gz G = lz at *
  generalize uo o lz lz = o2 at *
  have sa : Stq [a] G2 o2 (sI (sI (sR G2 128 a (some lz)) 129 a 0) 130 a (-1)) o2 := (((Stq.rf s.wf).wR (fun _ => by rw [oa]; exact in1)).wI (fun _ => by rw [oa]; exact in1)).wI (fun _ => by rw [oa]; exact in1)
  refine wp_Hi_init_12 a a lz ⟨t2, t2, fun G3 hG3 => ?_⟩
  have s3 : Stq [a] G2 o2 G3 (uo o2 (gz G2) a) := hG3 ▸ sa.al a
  have e1 : gR G3 128 a = some lz ∧ gI G3 129 a = 0 ∧ gI G3 130 a = -1 ∧ gT G3 (gz G2) = 8 ∧ gz G3 = gz G2 + 1 ∧ gs G3 = gs G2 + 6 := by
    rw [hG3]
    have hne : a ≠ gz (sI (sI (sR G2 128 a (some lz)) 129 a 0) 130 a (-1)) := by show a ≠ gz G2; omega
    refine ⟨?_, ?_, ?_, if_pos rfl, rfl, rfl⟩
    · rw [gR_al, if_neg hne]; exact gR_sR_eq
    · rw [gI_al, if_neg hne, gI_ne (by decide), gI_eq]
    · rw [gI_al, if_neg hne, gI_eq]
  have og : uo o2 (gz G2) a (gz G2) = a := uo_eq
  have oa3 : uo o2 (gz G2) a a = a := (s3.ow (by omega)).trans oa
  have t3 : gT G3 a = 3 := s3.tg' s.wf t2 (by omega)
  have l3 := l.stp s.wf s3 (by rw [List.mem_singleton]; omega)
  generalize uo o2 (gz G2) a = o3 at *
  clear hG3
  have s4 : Stq [a] G3 o3 (sR G3 131 a (some (gz G2))) o3 := (Stq.rf s3.wf).wR (fun _ => by rw [oa3]; exact in1)
  have nn : ∀ z, z ∈ ([] : List Nat) → z ∈ [a] := fun z hz => absurd hz List.not_mem_nil
  have l4 := l3.stp s3.wf s4 (by rw [List.mem_singleton]; omega)
  have em4 := (em.stp s.wf s3).stp s3.wf s4
  refine ⟨t3, k _ o3 ((s.mono nn).tr (s3.tr s4)) ⟨t3, oa3, ?_, e1.2.1, e1.2.2.1, ?_, ?_, ?_, by omega, l4, by simp⟩ (by show gz G3 = _; omega) (by show gs G3 = _; omega) em4⟩
  · rw [gR_sR, if_neg (fun z => absurd z.1 (by omega))]; exact e1.1
  · rw [← z1]; exact gR_sR_eq
  · rw [← z1]; exact e1.2.2.2.1
  · rw [← z1]; exact og
theorem c_Si_init {G : GH} {o : Nat → Nat} {a : Nat} (hw : Wf G) (hE : EmR E G) (ha : gT G a = 6) (hoa : o a = a)
    (k : ∀ G' o', Stq [a] G o G' o' → SiR E G' o' a (gz G) [] 0 0 0 0 → gz G' = gz G + 1 → gs G' = gs G + 3 → EmR E G' → Post (.inl none) G') : Cl E 4 m_Si_init [.ref a] G Post := by
  have haz := hw a (by omega)
  refine j_enter (L := [some (.ref a)]) me_Si_init (cat_c rfl cat_n) (Nat.le_of_ble_eq_true rfl) rfl (wp_Si_init_0 a (fun G1 hG1 => c_AL_init (by rw [hG1]; exact if_pos rfl) ?_))
  subst hG1
  obtain ⟨s, l, z1, z2, em⟩ := new_list (E := E) (o := o) hw hE _ rfl
  generalize sR (sI (al G 12 3) 704 (gz G) 0) 705 (gz G) (some (eC E)) = G2 at *
  have oa : uo o (gz G) (gz G) a = a := (uo_ne (by omega)).trans hoa
  have t2 : gT G2 a = 6 := s.tg' hw ha (by omega)
  generalize hl : gz G = lz at *
  generalize uo o lz lz = o2 at *
  have ia : a < gz G2 → o2 a ∈ [a] := fun _ => by rw [oa]; exact in1
  have s2 : Stq [a] G2 o2 (sI (sI (sI (sR G2 320 a (some lz)) 321 a 0) 322 a 0) 323 a 0) o2 := ((((Stq.rf s.wf).wR ia).wI ia).wI ia).wI ia
  have nn : ∀ z, z ∈ ([] : List Nat) → z ∈ [a] := fun z hz => absurd hz List.not_mem_nil
  refine wp_Si_init_12 a a lz ⟨t2, t2, k _ o2 ((s.mono nn).tr s2) ⟨t2, oa, gR_sR_eq, ?_, ?_, gI_eq, Nat.le_refl _, by omega, ⟨by simp, by simp⟩, 0, l.stp s.wf s2 (by rw [List.mem_singleton]; omega), rfl⟩ z1 z2 (em.stp s.wf s2)⟩
  · rw [gI_ne (by decide), gI_ne (by decide), gI_eq]
  · rw [gI_ne (by decide), gI_eq]
def jb0 (k : Nat) : Int32 := match k with
  | 0 => 0 | 1 => 10 | 2 => 10 | 3 => 0 | 4 => 5 | _ => 1
def sc0 : SC := (fun _ => [], fun _ => 0, fun _ => 0, fun _ _ => -1)
def rA (i : Nat) : Nat := match i with
  | 0 => 1 | 1 => 2 | 2 => 9 | 3 => 16 | 4 => 23 | 5 => 26 | _ => 28
/-- how far the constructor is: g groups, r references -/
def IP (E : EV) (G : GH) (o A : Nat → Nat) (g r : Nat) : Prop :=
  Wf G ∧ EmR E G ∧ (∀ q, q < gz G → o q < gz G) ∧ gT G (A 0) = 10 ∧ o (A 0) = A 0 ∧ (∀ i, i < r → gR G (576 + i) (A 0) = some (A (rA i))) ∧ (1 ≤ g → gT G (A 1) = 4 ∧ o (A 1) = A 1 ∧ JbS G A jb0) ∧ (2 ≤ g → SoS E G o A (fun _ => []) sc0 0) ∧ (3 ≤ g → PgS E G o A 9 P0 0) ∧ (4 ≤ g → PgS E G o A 16 P0 0) ∧ (5 ≤ g → HiS E G o A (fun _ => []) ([], 0, -1) 0) ∧ (6 ≤ g → SiS E G o A ([], 0, 0) 0)
theorem IP.stp {G G' : GH} {o o' A : Nat → Nat} {g r lo : Nat} {js : List Nat} (hA : InjA A) (h : IP E G o A g r) (s : Stq (js.map A) G o G' o') (hj : ∀ j ∈ js, j < 34 ∧ (j = 0 ∨ lo ≤ j)) (hlo : (1 ≤ g → 2 ≤ lo) ∧ (2 ≤ g → 9 ≤ lo) ∧ (3 ≤ g → 16 ≤ lo) ∧ (4 ≤ g → 23 ≤ lo) ∧ (5 ≤ g → 26 ≤ lo) ∧ (6 ≤ g → 28 ≤ lo)) (hR : ∀ i, i < r → gR G' (576 + i) (A 0) = gR G (576 + i) (A 0)) (hov : ∀ q, q < gz G' → o' q < gz G') : IP E G' o' A g r := by
  obtain ⟨h1, h2, h3, h4, h5, h6, h7, h8, h9, h10, h11, h12⟩ := h
  have n : ∀ i, 0 < i → i < lo → i < 34 → A i ∉ js.map A := fun i hi hl h34 => hA.nj h34 (fun j hj' => (hj j hj').1) (fun z => by have := (hj i z).2; omega)
  refine ⟨s.wf, h2.stp h1 s, hov, s.tg' h1 h4 (by omega), (s.ow (h1 _ (by omega))).trans h5, fun i hi => (hR i hi).trans (h6 i hi), fun hg => ?_, fun hg => ?_, fun hg => ?_, fun hg => ?_, fun hg => ?_, fun hg => ?_⟩
  · obtain ⟨a1, a2, a3⟩ := h7 hg
    have := hlo.1 hg
    have q := s.sm (h1 (A 1) (by omega)) (by rw [a2]; exact n 1 (by omega) (by omega) (by omega))
    exact ⟨q.1.trans a1, (s.ow (h1 (A 1) (by omega))).trans a2, fun k hk => (q.2.2.1 _).trans (a3 k hk)⟩
  · have := hlo.2.1 hg
    exact (h8 hg).stp h1 s (n 2 (by omega) (by omega) (by omega)) (fun j hj => ⟨n _ (by omega) (by omega) (by omega), n _ (by omega) (by omega) (by omega)⟩) (fun j _ e he => absurd he List.not_mem_nil)
  · have := hlo.2.2.1 hg
    exact (h9 hg).stp h1 s (n 9 (by omega) (by omega) (by omega)) (n 13 (by omega) (by omega) (by omega)) (n 14 (by omega) (by omega) (by omega)) (n 15 (by omega) (by omega) (by omega))
  · have := hlo.2.2.2.1 hg
    exact (h10 hg).stp h1 s (n 16 (by omega) (by omega) (by omega)) (n 20 (by omega) (by omega) (by omega)) (n 21 (by omega) (by omega) (by omega)) (n 22 (by omega) (by omega) (by omega))
  · have := hlo.2.2.2.2.1 hg
    exact (h11 hg).stp h1 s (n 23 (by omega) (by omega) (by omega)) (n 24 (by omega) (by omega) (by omega))
  · have := hlo.2.2.2.2.2 hg
    exact (h12 hg).stp h1 s (n 26 (by omega) (by omega) (by omega)) (n 27 (by omega) (by omega) (by omega))
/-- a reference is set, and a new object made -/
theorem IP.next {G : GH} {o A : Nat → Nat} {g r lo t n : Nat} (hA : InjA A) (h : IP E G o A g r) (hz : A (rA r) < gz G) (hlo : (1 ≤ g → 2 ≤ lo) ∧ (2 ≤ g → 9 ≤ lo) ∧ (3 ≤ g → 16 ≤ lo) ∧ (4 ≤ g → 23 ≤ lo) ∧ (5 ≤ g → 26 ≤ lo) ∧ (6 ≤ g → 28 ≤ lo)) :
    ∀ G2, G2 = al (sR G (576 + r) (A 0) (some (A (rA r)))) t n → IP E G2 (uo o (gz G) (gz G)) A g (r + 1) ∧ Stq ([0].map A) G o G2 (uo o (gz G) (gz G)) ∧ gT G2 (gz G) = t ∧ uo o (gz G) (gz G) (gz G) = gz G ∧ gz G2 = gz G + 1 ∧ gs G2 = gs G + n := by
  intro G2 hG
  obtain ⟨h1, h2, h3, h4, h5, h6, -⟩ := id h
  have z0 := h1 (A 0) (by omega)
  have s1 : Stq ([0].map A) G o (sR G (576 + r) (A 0) (some (A (rA r)))) o := (Stq.rf h1).wR (fun _ => by rw [h5]; exact in1)
  have s2 : Stq ([0].map A) G o G2 (uo o (gz G) (gz G)) := hG ▸ s1.al (gz G)
  have zz : gz G2 = gz G + 1 := by rw [hG]; rfl
  have hov : ∀ q, q < gz G2 → uo o (gz G) (gz G) q < gz G2 := fun q hq => by
    by_cases c : q = gz G
    · rw [c, uo_eq]; omega
    · rw [uo_ne c]; have := h3 q (by omega); omega
  have hr : ∀ i, gR G2 (576 + i) (A 0) = if i = r then some (A (rA r)) else gR G (576 + i) (A 0) := fun i => by
    rw [hG, gR_al, if_neg (by show A 0 ≠ gz G; omega), gR_sR]
    by_cases c : i = r
    · rw [if_pos ⟨by omega, rfl⟩, if_pos c]
    · rw [if_neg (fun z => c (by omega)), if_neg c]
  have h' := h.stp (lo := lo) hA s2 (by intro j hj; simp at hj; omega) hlo (fun i hi => by rw [hr, if_neg (by omega)]) hov
  refine ⟨⟨h'.1, h'.2.1, h'.2.2.1, h'.2.2.2.1, h'.2.2.2.2.1, fun i hi => ?_, h'.2.2.2.2.2.2⟩, s2, by rw [hG]; exact if_pos rfl, uo_eq, zz, by rw [hG]; rfl⟩
  by_cases c : i = r
  · rw [hr, if_pos c, c]
  · exact h'.2.2.2.2.2.1 i (by omega)
end INIT2
