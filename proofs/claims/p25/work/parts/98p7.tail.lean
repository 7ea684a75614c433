/-! p25: sources, results told twice, and the end of a turn -/
section TAIL25
variable {E : EV} {G : GH} {Post : Res → GH → Prop} {o A : Nat → Nat} {x : XS} {p N : Nat}
theorem Cs.nx {G0 G1 : GH} {p' n : Nat} (h : Cs G0 0 G (p + n)) (c : Cs G p G1 (p' + 1)) : Cs G0 0 G1 (p' + (n + 1)) := ⟨by have := h.1; have := c.1; omega, by have := h.2; have := c.2; omega⟩
abbrev mF (x : XS) : Nat → Int32 := fun s => nI (sEv (cS x) s).length
abbrev dF (x : XS) : Nat → Int32 := fun s => sId (cS x) s
theorem as_step {s : Nat} {l mk : Int32} (hs : s < 3) (hI : Iv x) (h : LP E N G o A x p (mF x) (dF x)) (K : J E 3 m_La_areSources 11 [some (.ref (A 0)), some (.ref (A 31)), some (.ref (A 32)), some (.int mk), some (.int (lsS x s l)), some (.int 1), some (.int (nI (s + 1))), none] [] G Post) : J E 3 m_La_areSources 11 [some (.ref (A 0)), some (.ref (A 31)), some (.ref (A 32)), some (.int mk), some (.int l), some (.int 1), some (.int (nI s)), none] [] G Post := by
  obtain ⟨h1, ⟨a1, a2, a3, a4⟩, ⟨b1, b2, b3, b4⟩, -, -⟩ := h
  obtain ⟨q1, q2, q3⟩ := hI.1.1.2.2.1.1 s hs
  have q4 := (hI.1.1.2.1 s hs).1
  have ib := its_b hI.2.1 hs
  have ch : nI (gOf (cN x) s) - nI (gTk (cN x) s) = nI (gOf (cN x) s - gTk (cN x) s) := nI_sub q1
  have e4 : (4 : Int32) = nI 4 := rfl
  have m1 : (-1 : Int32).toInt = -1 := by decide +kernel
  have m2 : (1000 : Int32).toInt = 1000 := by decide +kernel
  have fin : ∀ l', l' = lsS x s l → J E 3 m_La_areSources 119 [some (.ref (A 0)), some (.ref (A 31)), some (.ref (A 32)), some (.int mk), none, some (.int 1), some (.int (nI s)), none] [.int l'] G Post := fun l' e => by
    refine wp_La_areSources_119 _ _ _ _ _ _ _ ?_
    rw [nI_1, e]
    exact K
  refine wp_La_areSources_11 _ _ _ _ _ _ _ ⟨fun z => absurd z (nI_ge (b := 3) hs (by omega)), fun _ => ⟨fun z => absurd z i32_10, fun _ => ⟨h1.tg0, _, a_sourceWatermark hs h1, _, a_inChannel hs h1, fun z => ?_, fun _ => ⟨_, a_inChannel hs h1, fun z => ?_, fun _ => ⟨_, a_inChannel hs h1, _, a_offset hs h1, fun z => ?_, fun _ => ⟨_, a_offset hs h1, Or.inl a1, s, ix3 hs a2, fun z => ?_, fun _ => ⟨fun z => ?_, fun _ => ⟨fun z => ?_, fun _ => ?_⟩⟩⟩⟩⟩⟩⟩⟩
  · rw [ch] at z; exact absurd z (nI_pos (by omega))
  · rw [ch, e4] at z; exact absurd z (nI_nlt (by omega) (by omega))
  · rw [ch] at z; exact absurd z (nI_nlt (by omega) (by omega))
  · rw [a4 s hs] at z; exact absurd z (nI_nlt (by omega) (by omega))
  · have := i32_lt z; omega
  · have := i32_le z; omega
  · refine wp_La_areSources_96 _ _ _ _ _ _ _ _ ⟨Or.inl b1, s, ix3 hs b2, ?_⟩
    rw [b4 s hs]
    refine ⟨fun c => ?_, fun c => ⟨fun c2 => ?_, fun c2 => ?_⟩⟩
    · exact wp_La_areSources_117 _ _ _ _ _ _ _ (fin _ (if_neg c).symm)
    · refine wp_La_areSources_117 _ _ _ _ _ _ _ (fin _ ?_)
      unfold lsS
      rw [if_pos c, if_neg (Int32.not_lt.mpr c2)]
    · refine fin _ ?_
      unfold lsS
      rw [if_pos c, if_pos (Int32.not_le.mp c2)]
theorem a_sources {mk : Int32} (hI : Iv x) (h : LP E N G o A x p (mF x) (dF x)) (hS : SrcOK x mk) : AK E 3 m_La_areSources [.ref (A 0), .ref (A 31), .ref (A 32), .int mk] G 1 := fun Post hk => by
  refine j_enter (L := [some (.ref (A 0)), some (.ref (A 31)), some (.ref (A 32)), some (.int mk), none, none, none, none]) me_La_areSources (cat_c rfl (cat_c rfl (cat_c rfl (cat_c rfl cat_n)))) (Nat.le_of_ble_eq_true rfl) rfl (wp_La_areSources_0 _ _ _ _ ?_)
  refine as_step (s := 0) (by omega) hI h (as_step (s := 1) (by omega) hI h (as_step (s := 2) (by omega) hI h ?_))
  have fin : J E 3 m_La_areSources 172 [none, none, none, none, none, none, none, none] [] G Post := wp_La_areSources_172 (wp_La_areSources_177 _ ⟨Or.inr rfl, hk⟩)
  refine wp_La_areSources_11 _ _ _ _ _ _ _ ⟨fun _ => ?_, fun z => absurd (by decide +kernel) z⟩
  have nx : J E 3 m_La_areSources 159 [none, none, none, some (.int mk), some (.int (lst x)), none, some (.int (gMk (cN x))), none] [] G Post := wp_La_areSources_159 _ _ _ ⟨fun _ => fin, fun c => ⟨fun c2 => absurd (hS.2.resolve_left c) c2, fun _ => fin⟩⟩
  refine wp_La_areSources_127 _ _ _ _ ⟨h.1.tg0, _, a_watermark h.1, fun z => absurd z i32_10, fun _ => ⟨fun z => absurd z hS.1, fun _ => ⟨fun _ => nx, fun c => ⟨fun z => absurd z (hI.2.2.resolve_left c), fun _ => nx⟩⟩⟩⟩
/-- what is told in two ways -/
theorem l_twice {m d : Nat → Int32} {q s kd sz : Int32} {G0 : GH} {n : Nat} (hA : InjA A) (hI : Iv x) (h : LP E N G o A x p m d) (hC : Cs G0 0 G (p + n)) (q0 : 0 ≤ q.toInt) (q1 : q.toInt ≤ 5) (s0 : 0 ≤ s.toInt) (s1 : s.toInt ≤ 999) (hk : kd = cJ x 0) (hz : sz = cJ x 1) (K : ∀ G' o' p', LP E N G' o' A x p' m d → Cs G0 0 G' (p' + (n + 6)) → Post (.inl (some (.int 1))) G') : Cl E 8 m_La_isTwice [.ref (A 0), .int q, .int s, .int sz, .int kd] G Post := by
  have X := side_x hI.1
  have two := res_two hI q0 q1 s0 s1
  have hc1 := X.2.2.2.2.2.2.2.2.1
  have hc2 := X.2.2.2.2.2.2.2.2.2
  refine j_enter (L := [some (.ref (A 0)), some (.int q), some (.int s), some (.int sz), some (.int kd), none, none, none, none]) me_La_isTwice (cat_c rfl (cat_c rfl (cat_c rfl (cat_c rfl (cat_c rfl cat_n))))) (Nat.le_of_ble_eq_true rfl) rfl (wp_La_isTwice_0 _ _ _ _ _ ⟨h.1.tg0, c_result hA h.1 hc1 ?_⟩)
  rw [(two 0 (Or.inl rfl)).1]
  intro G1 o1 p1 y1 y2 y3
  have h1 := h.cls y1 y2
  have C1 := hC.nx y3
  refine wp_La_isTwice_7 _ _ _ _ _ _ ⟨h1.1.tg0, c_result hA h1.1 hc1 ?_⟩
  rw [(two 1 (Or.inr (Or.inl rfl))).1]
  intro G2 o2 p2 y1 y2 y3
  have h2 := h1.cls y1 y2
  have C2 := C1.nx y3
  refine wp_La_isTwice_16 _ _ _ _ _ _ _ ⟨h2.1.tg0, c_result hA h2.1 hc1 ?_⟩
  rw [(two 2 (Or.inr (Or.inr rfl))).1]
  intro G3 o3 p3 y1 y2 y3
  have h3 := h2.cls y1 y2
  have C3 := C2.nx y3
  refine wp_La_isTwice_25 _ _ _ _ _ _ _ _ ⟨h3.1.tg0, c_resultAnew hA h3.1 hc2 ?_⟩
  rw [(two 0 (Or.inl rfl)).2]
  intro G4 o4 p4 y1 y2 y3
  have h4 := h3.cls y1 y2
  have C4 := C3.nx y3
  refine wp_La_isTwice_34 _ _ _ _ _ _ _ _ _ ⟨fun z => absurd rfl z, fun _ => ⟨h4.1.tg0, c_resultAnew hA h4.1 hc2 ?_⟩⟩
  rw [(two 1 (Or.inr (Or.inl rfl))).2]
  intro G5 o5 p5 y1 y2 y3
  have h5 := h4.cls y1 y2
  have C5 := C4.nx y3
  refine wp_La_isTwice_46 _ _ _ _ _ _ _ _ _ ⟨fun z => absurd rfl z, fun _ => ⟨h5.1.tg0, c_resultAnew hA h5.1 hc2 ?_⟩⟩
  rw [(two 2 (Or.inr (Or.inr rfl))).2]
  intro G6 o6 p6 y1 y2 y3
  have h6 := h5.cls y1 y2
  have C6 := C5.nx y3
  have fin := K G6 o6 p6 h6 C6
  have rf := res_facts hI (q := q) s0 s1
  generalize rsV x q s 0 = V0 at *
  generalize rsV x q s 1 = V1 at *
  generalize rsV x q s 2 = V2 at *
  refine wp_La_isTwice_58 _ _ _ _ _ _ _ _ ⟨fun z => absurd rfl z, fun _ => ⟨h6.1.tg0, _, a_pairs h6.1, _, a_pairsAnew h6.1, fun z => absurd (pairs_two hI) z, fun _ => ?_⟩⟩
  have end1 : J E 8 m_La_isTwice 192 [none, none, none, none, none, none, none, none, none] [] G6 Post := wp_La_isTwice_192 (wp_La_isTwice_197 _ ⟨Or.inr rfl, fin⟩)
  sorry
end TAIL25
