section LAWS
variable {E : EV} {Post : Res → GH → Prop} {R : RX}
theorem StS.pb {G : GH} {o A : Nat → Nat} {x : XS} {p : Nat} (h : StS E G o A x p) : p ≤ 62000 := by
  obtain ⟨ea, p1, p2, p3, p4, p5, ⟨-, -, -, -, -, hSo, hPg, hPs, hHi, hSi⟩, hp⟩ := h
  have la : ∀ {l c : Nat} {xs : List Nat}, LA E G o l xs c → c ≤ 6000 := fun h => by
    obtain ⟨e, h⟩ := h
    exact h.2.2.2.2.2.1
  have b1 : p1 ≤ 18120 := by
    obtain ⟨-, -, -, h4, c, h5, h6⟩ := hSo
    have l0 := la (h5 0 (by omega))
    have l1 := la (h5 1 (by omega))
    have l2 := la (h5 2 (by omega))
    have n0 := (h4 0 (by omega)).2.2.2.2.2.2.2.1
    have n1 := (h4 1 (by omega)).2.2.2.2.2.2.2.1
    have n2 := (h4 2 (by omega)).2.2.2.2.2.2.2.1
    omega
  have pg : ∀ {b q : Nat} {P : PG}, PgS E G o A b P q → q ≤ 14000 := fun h => by
    obtain ⟨-, -, -, -, -, -, rows, spare, ⟨-, -, -, -, -, -, cr, cp, h1, h2, h3⟩, -, h4⟩ := h
    have := la h1
    have := la h2
    omega
  have b2 := pg hPg
  have b3 := pg hPs
  have b4 : p4 ≤ 6000 := la hHi.1.2.2.2.2.2.2.2.2.2.1
  have b5 : p5 ≤ 8900 := by
    obtain ⟨rows, ⟨-, -, -, -, -, -, -, -, -, c, h1, h2⟩, -, h3⟩ := hSi
    have := la h1
    omega
  omega
def mA (z a0 j : Nat) : Nat := if j = 33 then a0 else if j = 32 then z + 66 else if j = 4 then z + 5 else if j = 5 then z + 7 else if j = 6 then z + 4 else if j = 7 then z + 6 else z + j
theorem mA_inj {z a0 : Nat} (h : a0 < z) : InjA (mA z a0) := by
  intro i j hi hj
  unfold mA
  repeat' split
  all_goals omega
/-- the law answers 1 -/
theorem c_law {G : GH} {a0 N : Nat} (hS : SimR R) (h0 : R X0 X0 [] 0) (hw : Wf G) (hE : EmR E G) (ht : gT G a0 = 20 ∨ gT G a0 = 25) (hn : gN G a0 = N) (hN : N ≤ 3584) (hP : ∀ G', gz G' ≤ gz G + 601024 → gs G' ≤ gs G + 7293034 → Post (.inl (some (.int 1))) G') : J E 14 m_La_law 0 [some (.ref a0), none, none, none, none, none, none] [] G Post := by
  have ha : a0 < gz G := hw a0 (by rcases ht with z | z <;> rw [z] <;> decide)
  have hA := mA_inj (z := gz G) ha
  refine wl_La_law_0 a0 (fun G1 hG1 => ?_)
  generalize hAd : mA (gz G) a0 = A at *
  have eA : ∀ j, A j = mA (gz G) a0 j := fun j => by rw [hAd]
  have e0 : A 0 = gz G := by rw [eA]; rfl
  have s1 : Stq (RA A) G id G1 (uo id (gz G) (gz G)) := by rw [hG1]; exact (Stq.rf hw).al (gz G)
  have t1 : gT G1 (A 0) = 10 := by rw [e0, hG1, gT_al, if_pos rfl]
  have z1 : gz G1 = gz G + 1 := by rw [hG1]; rfl
  have q1 : gs G1 = gs G + 11 := by rw [hG1]; rfl
  have ov : ∀ q, q < gz G1 → uo id (gz G) (gz G) q < gz G1 := fun q hq => by
    by_cases c : q = gz G
    · rw [c, uo_eq]; omega
    · rw [uo_ne c]; exact hq
  have fin0 : ∀ G' o', StS E G' o' A X0 0 → Stq (RA A) G1 (uo id (gz G) (gz G)) G' o' → gz G' = gz G1 + 30 → gs G' = gs G1 + 106 → J E 14 m_La_law 7 [some (.ref a0), none, none, none, none, none, none] [.ref (gz G)] G' Post := by
    intro G2 o2 y1 y2 y3 y4
    have s2 := s1.tr y2
    have z2 : gz G2 = gz G + 31 := by omega
    have e31 : A 31 = gz G + 31 := by rw [eA]; rfl
    refine wl_La_law_7 a0 (gz G) (fun G3 hG3 => ?_)
    have im : IM G2 o2 (gz G2) G3 0 (fun _ => 0) (gs G2 + 58) := by
      refine ⟨⟨uo o2 (gz G2) (gz G2), by rw [hG3]; exact (Stq.rf y1.wf).al (gz G2), fun q h1 h2 => ?_⟩, by rw [hG3, gT_al, if_pos rfl], by rw [hG3]; rfl, by rw [hG3]; rfl, fun k _ _ hk => absurd hk (Nat.not_lt_zero _), fun k hk => by rw [hG3, gI_al, if_pos rfl]⟩
      have h2 : q < gz G2 + 1 := by rw [hG3] at h2; exact h2
      have e : q = gz G2 := by omega
      rw [e, uo_eq]
    refine c_Mo_init im (fun G4 o4 m1 m2 m3 m4 m5 => ?_)
    have em : gz G2 = A 31 := by omega
    rw [em] at m1 m2 m3 m4
    have y5 : StS E G4 o4 A X0 0 := y1.ot (js := [31]) hA m2 (by decide)
    have s4 := s2.le
    show J E 14 m_La_law 15 [some (.ref a0), some (.ref (gz G)), none, none, none, none, none] [.ref (gz G2)] G4 Post
    refine wl_La_law_15 a0 (gz G) (gz G2) (fun G5 hG5 => ?_)
    have e32 : A 32 = gz G + 66 := by rw [eA]; rfl
    have z4 : gz G4 = A 32 := by omega
    have s5 : Stq ([31].map A) G4 o4 G5 (uo o4 (gz G4) (gz G4)) := by rw [hG5]; exact (Stq.rf y5.wf).al (gz G4)
    have y6 : StS E G5 (uo o4 (gz G4) (gz G4)) A X0 0 := y5.ot hA s5 (by decide)
    have z5 : gz G5 = gz G + 67 := by rw [hG5]; show gz G4 + 1 = _; omega
    have q5 : gs G5 = gs G + 36849 := by rw [hG5]; show gs G4 + 1 = _; omega
    have e33 : A 33 = a0 := by rw [eA]; rfl
    have ne : ∀ q, q < gz G4 → uo o4 (gz G4) (gz G4) q = o4 q := fun q hq => uo_ne (by omega)
    obtain ⟨F, T, mm, ab⟩ := m1
    have m6 : MoS G5 (A 31) (bM (A 31)) F T := by
      have sm : ∀ q, q < gz G4 → Sm G4 G5 q := fun q hq => by
        have := (Stq.rf (S := []) (o := o4) y5.wf).al (t := 22) (n := 1) (gz G4)
        rw [← hG5] at this
        exact this.sm hq (by simp)
      have qm := sm (A 31) (by omega)
      have qb : ∀ k, aK k = true → Sm G4 G5 (bM (A 31) k) := fun k hk => sm _ (by have := (pK_lt k (aK_lt hk) hk).1; unfold bM; omega)
      obtain ⟨⟨a1, a2⟩, a3, a4⟩ := mm
      exact ⟨⟨qm.1.trans a1, fun k hk => ⟨(qm.2.2.2.1 _).trans (a2 k hk).1, (qb k hk).1.trans (a2 k hk).2.1, (qb k hk).2.1.trans (a2 k hk).2.2⟩⟩, fun k hk hk' => (qm.2.2.1 _).trans (a3 k hk hk'), fun k hk i => ((qb k hk).2.2.2.2.1 i).trans (a4 k hk i)⟩
    have t5 : gT G5 a0 = gT G a0 := by rw [s5.tg (by omega), m2.tg (by omega), s2.tg ha]
    have n5 : gN G5 a0 = N := by rw [s5.ln (by omega), m2.ln (by omega), s2.ln ha]; exact hn
    have o5 : uo o4 (gz G4) (gz G4) a0 = a0 := by rw [ne a0 (by omega), m2.ow (by omega), s2.ow ha]; rfl
    have hLW : LW E (gA G5 a0) N G5 (uo o4 (gz G4) (gz G4)) A X0 0 X0 [] 0 := by
      refine ⟨y6, ⟨0, F, T, m6, ab⟩, ⟨?_, ?_, ?_, by omega⟩, fun q h1 h2 => ?_, fun j hj => ?_, by omega, by rw [e33, t5]; exact ht, by rw [e33]; exact n5, fun i => by rw [e33], by rw [e33]; exact o5⟩
      · rw [hG5, gT_al, if_pos z4.symm]
      · rw [hG5, gN_al, if_pos z4.symm]
      · rw [← z4, uo_eq]
      · rw [ne q (by omega)]; exact m3 q h1 (by omega)
      · rw [eA, z5]
        unfold mA
        repeat' split
        all_goals omega
    have lp := law_loop (Post := Post) hA hN hS (G0 := G5) (fun G' o' p' x' h1 h2 => ?_) (N + 1) 0 G5 _ 0 X0 X0 [] 0 (Nat.zero_le _) (by omega) hLW h0 Cs.rf
    · rw [em, z4]
      unfold LL at lp
      rw [e33, e0] at lp
      exact lp
    · have b := h1.pb
      have h3 := h2.1
      have h4 := h2.2
      exact hP G' (by omega) (by omega)
  have g := c_St_init (E := E) (Post := aft E 14 m_La_law 4 [some (.ref a0), none, none, none, none, none, none] [.ref (gz G)] Post) hA s1.wf (hE.stp hw s1) ov t1 (by rw [e0]; exact uo_eq) (by rw [eA]; show gz G + 1 = _; omega) (by rw [eA]; show gz G + 2 = _; omega) (by rw [eA]; show gz G + 3 = _; omega) (by rw [eA]; show gz G + 4 = _; omega) (by rw [eA]; show gz G + 5 = _; omega) (by rw [eA]; show gz G + 6 = _; omega) (by rw [eA]; show gz G + 7 = _; omega) (by rw [eA]; show gz G + 8 = _; omega)
    (fun j h1 h2 => by rw [eA]; unfold mA; rw [if_neg (by omega), if_neg (by omega), if_neg (by omega), if_neg (by omega), if_neg (by omega), if_neg (by omega)]; omega)
    (fun G' o' y1 y2 y3 y4 _ => fin0 G' o' y1 y2 y3 y4)
  rw [e0] at g
  exact g
end LAWS
